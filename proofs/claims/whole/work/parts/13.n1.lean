/-! ===== THE STATE: now, acts (the oldest first), two images, the tape, the latest fault ===== -/
abbrev ZS : Type := Option NS × List NS × Option NS × Option NS × List Int × Int
def okN (N : NS) (T : Int) : Prop := WFT N T ∧ ((n_gd N).length ≤ 4 ∧ WFT N (n_sc N 4))
def okO (o : Option NS) (T : Int) : Prop := ∀ N, o = some N → okN N T
def okZ (Z : ZS) (T : Int) : Prop := okO Z.1 T ∧ (Z.2.1.length ≤ 8 ∧ ∀ N ∈ Z.2.1, okN N T) ∧ okO Z.2.2.1 T ∧ okO Z.2.2.2.1 T ∧ (Z.2.2.2.2.1.length ≤ 140 ∧ ∀ x ∈ Z.2.2.2.2.1, 0 ≤ x ∧ x ≤ 255)
theorem okN_T {N : NS} {T T' : Int} (h : okN N T) (ht : T ≤ T') : okN N T' := ⟨WFT_T h.1 ht, h.2⟩
theorem okZ_T {Z : ZS} {T T' : Int} (h : okZ Z T) (ht : T ≤ T') : okZ Z T' := ⟨fun N e => okN_T (h.1 N e) ht, ⟨h.2.1.1, fun N e => okN_T (h.2.1.2 N e) ht⟩, fun N e => okN_T (h.2.2.1 N e) ht, fun N e => okN_T (h.2.2.2.1 N e) ht, h.2.2.2.2⟩
theorem okN_5 {N : NS} {T : Int} (h : okN N T) : 0 ≤ n_sc N 5 ∧ n_sc N 5 ≤ 40 := h.1.1.1.2.2.2.2.2
/-- the class holds it -/
def icN (m : gm_M) (o : Option NS) : Prop := match o with
  | none => m (3 + 1) 0 = 0 ∧ m 3 2 = 0
  | some N => repC m 3 N
def icA (m : gm_M) (L : List NS) : Prop := m 116 2 = (L.length : Int) ∧ (0 ≤ m 116 1 ∧ m 116 1 < 8) ∧ ∀ (i : Nat) N, L[i]? = some N → repC m (118 + 51 * ((m 116 1 - (L.length : Int) + (i : Int)) % 8)) N
def icI (m : gm_M) (k : Int) (o : Option NS) : Prop := match o with
  | none => m (527 + 51 * k + 1) 0 = 0
  | some N => repC m (527 + 51 * k) N
def icT (m : gm_M) (t : List Int) (f : Int) : Prop := (0 ≤ m 1 1 ∧ m 1 1 ≤ 140) ∧ lof (m 2) (m 1 1) = t ∧ m 1 2 = f
def IC (m : gm_M) (Z : ZS) : Prop := icN m Z.1 ∧ icA m Z.2.1 ∧ icI m 0 Z.2.2.1 ∧ icI m 1 Z.2.2.2.1 ∧ icT m Z.2.2.2.2.1 Z.2.2.2.2.2
/-- the reference holds it -/
def shM (m : gm_M) (o : Int) : gm_M := fun c j => m c (o + j)
def irN (m : gm_M) (o : Option NS) : Prop := match o with
  | none => m 630 0 = 0 ∧ m 630 1 = 0 ∧ m 630 5 = 0
  | some N => repB m 630 N
def irA (m : gm_M) (L : List NS) : Prop := m 629 3 = (L.length : Int) ∧ ∀ (i : Nat) N, L[i]? = some N → repB (shM m (565 * (i : Int))) 632 N
def irI (m : gm_M) (k : Int) (o : Option NS) : Prop := match o with
  | none => m 634 k = 0
  | some N => m 634 k = 1 ∧ repB (shM m (565 * k)) 633 N
def irT (m : gm_M) (t : List Int) (f : Int) : Prop := (0 ≤ m 629 7 ∧ m 629 7 ≤ 140) ∧ lof (m 635) (m 629 7) = t ∧ m 629 14 = f
def IR (m : gm_M) (Z : ZS) : Prop := irN m Z.1 ∧ irA m Z.2.1 ∧ irI m 0 Z.2.2.1 ∧ irI m 1 Z.2.2.2.1 ∧ irT m Z.2.2.2.2.1 Z.2.2.2.2.2
theorem icN_fr {m m' : gm_M} {o : Option NS} {T : Int} (h : icN m o) (ho : okO o T) (e : ∀ c j, 3 ≤ c → c < 54 → m' c j = m c j) : icN m' o := by
  cases o with
  | none => exact ⟨by rw [e _ _ (by omega) (by omega)]; exact h.1, by rw [e _ _ (by omega) (by omega)]; exact h.2⟩
  | some N => exact repC_fr h (okN_5 (ho N rfl)).2 (fun c q1 q2 j => e c j (by omega) (by omega))
theorem icA_fr {m m' : gm_M} {L : List NS} {T : Int} (h : icA m L) (ho : L.length ≤ 8 ∧ ∀ N ∈ L, okN N T) (e : ∀ c j, 116 ≤ c → c < 526 → m' c j = m c j) : icA m' L := by
  obtain ⟨h1, h2, h3⟩ := h
  refine ⟨by rw [e _ _ (by omega) (by omega)]; exact h1, by rw [e _ _ (by omega) (by omega)]; exact h2, fun i N hN => ?_⟩
  rw [e 116 1 (by omega) (by omega)]
  exact repC_fr (h3 i N hN) (okN_5 (ho.2 N (List.mem_of_getElem? hN))).2 (fun c q1 q2 j => e c j (by omega) (by omega))
theorem icI_fr {m m' : gm_M} {k : Int} {o : Option NS} {T : Int} (hk : k = 0 ∨ k = 1) (h : icI m k o) (ho : okO o T) (e : ∀ c j, 527 + 51 * k ≤ c → c < 578 + 51 * k → m' c j = m c j) : icI m' k o := by
  cases o with
  | none =>
    show m' (527 + 51 * k + 1) 0 = 0
    rw [e _ _ (by omega) (by omega)]; exact h
  | some N => exact repC_fr h (okN_5 (ho N rfl)).2 (fun c q1 q2 j => e c j (by omega) (by omega))
theorem icT_fr {m m' : gm_M} {t : List Int} {f : Int} (h : icT m t f) (e : ∀ c j, 1 ≤ c → c < 3 → m' c j = m c j) : icT m' t f := by
  unfold icT at h ⊢
  have e2 : m' 2 = m 2 := funext (fun j => e 2 j (by decide) (by decide))
  rw [e2, e 1 1 (by decide) (by decide), e 1 2 (by decide) (by decide)]
  exact h
theorem IC_fr {m m' : gm_M} {Z : ZS} {T : Int} (h : IC m Z) (ho : okZ Z T) (e : ∀ c j, 1 ≤ c → c < 629 → (c < 54 ∨ 116 ≤ c) → m' c j = m c j) : IC m' Z :=
  ⟨icN_fr h.1 ho.1 (fun c j a b => e c j (by omega) (by omega) (by omega)), icA_fr h.2.1 ho.2.1 (fun c j a b => e c j (by omega) (by omega) (by omega)), icI_fr (Or.inl rfl) h.2.2.1 ho.2.2.1 (fun c j a b => e c j (by omega) (by omega) (by omega)), icI_fr (Or.inr rfl) h.2.2.2.1 ho.2.2.2.1 (fun c j a b => e c j (by omega) (by omega) (by omega)), icT_fr h.2.2.2.2 (fun c j a b => e c j (by omega) (by omega) (by omega))⟩
theorem irN_fr {m m' : gm_M} {o : Option NS} (h : irN m o) (e : ∀ j, m' 630 j = m 630 j) : irN m' o := by
  cases o with
  | none =>
    show m' 630 0 = 0 ∧ m' 630 1 = 0 ∧ m' 630 5 = 0
    rw [e, e, e]; exact h
  | some N => exact repB_fr h e
theorem irA_fr {m m' : gm_M} {L : List NS} (h : irA m L) (e : ∀ j, m' 632 j = m 632 j) (e3 : m' 629 3 = m 629 3) : irA m' L :=
  ⟨by rw [e3]; exact h.1, fun i N hN => repB_fr (h.2 i N hN) (fun j => e _)⟩
theorem irI_fr {m m' : gm_M} {k : Int} {o : Option NS} (h : irI m k o) (e : ∀ j, m' 633 (565 * k + j) = m 633 (565 * k + j)) (e4 : m' 634 k = m 634 k) : irI m' k o := by
  cases o with
  | none => show m' 634 k = 0; rw [e4]; exact h
  | some N => exact ⟨by rw [e4]; exact h.1, repB_fr h.2 (fun j => e j)⟩
theorem irT_fr {m m' : gm_M} {t : List Int} {f : Int} (h : irT m t f) (e : ∀ j, m' 635 j = m 635 j) (e7 : m' 629 7 = m 629 7) (e14 : m' 629 14 = m 629 14) : irT m' t f := by
  unfold irT at h ⊢
  have e2 : m' 635 = m 635 := funext e
  rw [e2, e7, e14]
  exact h
theorem IR_fr {m m' : gm_M} {Z : ZS} (h : IR m Z) (e : ∀ c j, 629 ≤ c → c ≠ 631 → c ≠ 636 → c ≠ 637 → c ≠ 638 → c ≠ 639 → ¬ (c = 629 ∧ j ≠ 3 ∧ j ≠ 7 ∧ j ≠ 14) → m' c j = m c j) : IR m' Z :=
  ⟨irN_fr h.1 (fun j => e _ j (by omega) (by omega) (by omega) (by omega) (by omega) (by omega) (by omega)), irA_fr h.2.1 (fun j => e _ j (by omega) (by omega) (by omega) (by omega) (by omega) (by omega) (by omega)) (e _ _ (by omega) (by omega) (by omega) (by omega) (by omega) (by omega) (by omega)), irI_fr h.2.2.1 (fun j => e _ _ (by omega) (by omega) (by omega) (by omega) (by omega) (by omega) (by omega)) (e _ _ (by omega) (by omega) (by omega) (by omega) (by omega) (by omega) (by omega)), irI_fr h.2.2.2.1 (fun j => e _ _ (by omega) (by omega) (by omega) (by omega) (by omega) (by omega) (by omega)) (e _ _ (by omega) (by omega) (by omega) (by omega) (by omega) (by omega) (by omega)), irT_fr h.2.2.2.2 (fun j => e _ j (by omega) (by omega) (by omega) (by omega) (by omega) (by omega) (by omega)) (e _ _ (by omega) (by omega) (by omega) (by omega) (by omega) (by omega) (by omega)) (e _ _ (by omega) (by omega) (by omega) (by omega) (by omega) (by omega) (by omega))⟩
/-- acts kept: of more than eight the oldest is forgotten -/
def pushA (L : List NS) (N : NS) : List NS := if L.length = 8 then L.tail ++ [N] else L ++ [N]
theorem pushA_ok {L : List NS} {N : NS} {T : Int} (h : L.length ≤ 8 ∧ ∀ N ∈ L, okN N T) (hN : okN N T) : (pushA L N).length ≤ 8 ∧ ∀ M ∈ pushA L N, okN M T := by
  unfold pushA
  split
  · refine ⟨by rw [List.length_append, List.length_tail]; simp; omega, fun M hM => ?_⟩
    rcases List.mem_append.mp hM with z | z
    · exact h.2 M (List.mem_of_mem_tail z)
    · rw [List.mem_singleton.mp z]; exact hN
  · refine ⟨by rw [List.length_append]; simp; omega, fun M hM => ?_⟩
    rcases List.mem_append.mp hM with z | z
    · exact h.2 M z
    · rw [List.mem_singleton.mp z]; exact hN
theorem pushA_len {L : List NS} {N : NS} (h : L.length ≤ 8) : ((pushA L N).length : Int) = if L.length = 8 then 8 else (L.length : Int) + 1 := by
  unfold pushA
  split
  · rw [List.length_append, List.length_tail]; simp; omega
  · rw [List.length_append]; simp
theorem pushA_get {L : List NS} {N M : NS} {i : Nat} (h : L.length ≤ 8) (hi : (pushA L N)[i]? = some M) : (L.length = 8 ∧ i < 7 ∧ L[i + 1]? = some M) ∨ (L.length < 8 ∧ i < L.length ∧ L[i]? = some M) ∨ (M = N ∧ (i : Int) = (if L.length = 8 then 7 else (L.length : Int))) := by
  unfold pushA at hi
  by_cases q : L.length = 8
  · rw [if_pos q] at hi
    rw [if_pos q]
    have hl : L.tail.length = 7 := by rw [List.length_tail]; omega
    by_cases z : i < 7
    · rw [List.getElem?_append_left (by omega)] at hi
      rw [List.getElem?_tail] at hi
      exact Or.inl ⟨q, z, hi⟩
    · rw [List.getElem?_append_right (by omega)] at hi
      have hb : i - L.tail.length < [N].length := by
        obtain ⟨hb, -⟩ := List.getElem?_eq_some_iff.mp hi
        exact hb
      simp at hb
      have e : i - L.tail.length = 0 := by omega
      rw [e] at hi
      simp at hi
      exact Or.inr (Or.inr ⟨hi.symm, by omega⟩)
  · rw [if_neg q] at hi
    rw [if_neg q]
    by_cases z : i < L.length
    · rw [List.getElem?_append_left z] at hi
      exact Or.inr (Or.inl ⟨by omega, z, hi⟩)
    · rw [List.getElem?_append_right (by omega)] at hi
      have hb : i - L.length < [N].length := by
        obtain ⟨hb, -⟩ := List.getElem?_eq_some_iff.mp hi
        exact hb
      simp at hb
      have e : i - L.length = 0 := by omega
      rw [e] at hi
      simp at hi
      exact Or.inr (Or.inr ⟨hi.symm, by omega⟩)
