def po_cn (p : Nat → Bool) : Nat → Nat
  | 0 => 0
  | n + 1 => po_cn p n + (if p n = true then 1 else 0)
theorem po_cn_le (p : Nat → Bool) : ∀ n, po_cn p n ≤ n := by
  intro n
  induction n with
  | zero => exact Nat.le_refl 0
  | succ n ih => rw [po_cn]; split <;> omega
theorem po_cn_0 {p : Nat → Bool} : ∀ n, (∀ j, j < n → p j = false) → po_cn p n = 0 := by
  intro n
  induction n with
  | zero => intro _; rfl
  | succ n ih =>
    intro h
    rw [po_cn, ih (fun j hj => h j (by omega)), h n (by omega)]
    simp
theorem po_cn_all {p : Nat → Bool} : ∀ n, (∀ j, j < n → p j = true) → po_cn p n = n := by
  intro n
  induction n with
  | zero => intro _; rfl
  | succ n ih =>
    intro h
    rw [po_cn, ih (fun j hj => h j (by omega)), h n (by omega)]
    simp
/-- two that never hold together, both within a third -/
theorem po_cn_add {p q r : Nat → Bool} : ∀ n, (∀ j, j < n → (p j = true → q j = false ∧ r j = true) ∧ (q j = true → p j = false ∧ r j = true)) → po_cn p n + po_cn q n ≤ po_cn r n := by
  intro n
  induction n with
  | zero => intro _; exact Nat.le_refl 0
  | succ n ih =>
    intro h
    have i := ih (fun j hj => h j (by omega))
    obtain ⟨a, b⟩ := h n (by omega)
    rw [po_cn, po_cn, po_cn]
    by_cases hp : p n = true
    · obtain ⟨a1, a2⟩ := a hp
      rw [hp, a1, a2]; simp; omega
    · by_cases hq : q n = true
      · obtain ⟨b1, b2⟩ := b hq
        rw [hq, b1, b2]; simp; omega
      · rw [if_neg hp, if_neg hq]; omega
/-- one that lies within two others together -/
theorem po_cn_sub {p q r : Nat → Bool} : ∀ n, (∀ j, j < n → r j = true → p j = true ∨ q j = true) → po_cn r n ≤ po_cn p n + po_cn q n := by
  intro n
  induction n with
  | zero => intro _; exact Nat.le_refl 0
  | succ n ih =>
    intro h
    have i := ih (fun j hj => h j (by omega))
    rw [po_cn, po_cn, po_cn]
    by_cases hr : r n = true
    · rcases h n (by omega) hr with a | a
      · rw [if_pos a]; split <;> split <;> omega
      · rw [if_pos a]; split <;> split <;> omega
    · rw [if_neg hr]; split <;> split <;> omega
theorem po_min (g : Nat → Int32) (q : Nat → Prop) : ∀ n, (∃ j, j < n ∧ q j) → ∃ i, i < n ∧ q i ∧ ∀ j, j < n → q j → g i ≤ g j := by
  intro n
  induction n with
  | zero => intro ⟨j, hj, _⟩; omega
  | succ n ih =>
    intro ⟨j, hj, hq⟩
    by_cases e : ∃ j, j < n ∧ q j
    · obtain ⟨i, hi, qi, m⟩ := ih e
      by_cases c : q n ∧ g n < g i
      · refine ⟨n, by omega, c.1, fun t ht qt => ?_⟩
        by_cases z : t = n
        · rw [z]; exact Int32.le_refl _
        · have := m t (by omega) qt
          have c2 := c.2
          rw [Int32.le_iff_toInt_le] at this ⊢
          rw [Int32.lt_iff_toInt_lt] at c2
          omega
      · refine ⟨i, by omega, qi, fun t ht qt => ?_⟩
        by_cases z : t = n
        · rw [z] at qt ⊢
          have : ¬ g n < g i := fun w => c ⟨qt, w⟩
          exact Int32.not_lt.mp this
        · exact m t (by omega) qt
    · have z : j = n := by
        apply Classical.byContradiction
        intro w
        exact e ⟨j, by omega, hq⟩
      rw [z] at hq
      refine ⟨n, by omega, hq, fun t ht qt => ?_⟩
      by_cases z : t = n
      · rw [z]; exact Int32.le_refl _
      · exact absurd ⟨t, by omega, qt⟩ e
def po_ls (g : Nat → Int32) (x : Int32) : Nat → Bool := fun j => decide (g j < x)
def po_sm (g : Nat → Int32) (x : Int32) : Nat → Bool := fun j => decide (g j = x)
/-- the greatest value with at most k lesser ones: the one that the reference's test finds, and no other -/
theorem po_rank (g : Nat → Int32) (k : Nat) (hk : k < 16) (x : Int32) (i0 : Nat) (h0 : i0 < 16) (e0 : x = g i0) (hx : po_cn (po_ls g x) 16 ≤ k) (hm : ∀ j, j < 16 → po_cn (po_ls g (g j)) 16 ≤ k → g j ≤ x) (i : Nat) (hi : i < 16) : (po_cn (po_ls g (g i)) 16 ≤ k ∧ k < po_cn (po_ls g (g i)) 16 + po_cn (po_sm g (g i)) 16) ↔ g i = x := by
  constructor
  · intro ⟨a, b⟩
    have c := hm i hi a
    apply Classical.byContradiction
    intro ne
    have lt : g i < x := by
      rw [Int32.le_iff_toInt_le] at c
      rw [Int32.lt_iff_toInt_lt]
      have : (g i).toInt ≠ x.toInt := fun z => ne (Int32.toInt_inj.mp z)
      omega
    have s := po_cn_add (p := po_ls g (g i)) (q := po_sm g (g i)) (r := po_ls g x) 16 (by
      intro j _
      simp only [po_ls, po_sm, decide_eq_true_eq, decide_eq_false_iff_not]
      rw [Int32.lt_iff_toInt_lt] at lt
      refine ⟨fun y => ⟨fun z => ?_, ?_⟩, fun y => ⟨?_, ?_⟩⟩
      · rw [z] at y; exact absurd y Int32.lt_irrefl
      · rw [Int32.lt_iff_toInt_lt] at y ⊢; omega
      · rw [y]; exact Int32.lt_irrefl
      · rw [y, Int32.lt_iff_toInt_lt]; exact lt)
    omega
  · intro e
    rw [e]
    refine ⟨hx, ?_⟩
    apply Classical.byContradiction
    intro ng
    by_cases ex : ∃ j, j < 16 ∧ x < g j
    · obtain ⟨w, hw, qw, mw⟩ := po_min g (fun j => x < g j) 16 ex
      have s := po_cn_sub (p := po_ls g x) (q := po_sm g x) (r := po_ls g (g w)) 16 (by
        intro j hj
        simp only [po_ls, po_sm, decide_eq_true_eq]
        intro y
        by_cases z : x < g j
        · have := mw j hj z
          rw [Int32.le_iff_toInt_le] at this
          rw [Int32.lt_iff_toInt_lt] at y
          omega
        · by_cases z2 : g j = x
          · exact .inr z2
          · refine .inl ?_
            rw [Int32.lt_iff_toInt_lt] at z ⊢
            have : (g j).toInt ≠ x.toInt := fun t => z2 (Int32.toInt_inj.mp t)
            omega)
      have := hm w hw (by omega)
      rw [Int32.le_iff_toInt_le] at this
      rw [Int32.lt_iff_toInt_lt] at qw
      omega
    · have s := po_cn_sub (p := po_ls g x) (q := po_sm g x) (r := fun _ => true) 16 (by
        intro j hj _
        simp only [po_ls, po_sm, decide_eq_true_eq]
        by_cases z2 : g j = x
        · exact .inr z2
        · refine .inl ?_
          have z : ¬ x < g j := fun y => ex ⟨j, hj, y⟩
          rw [Int32.lt_iff_toInt_lt] at z ⊢
          have : (g j).toInt ≠ x.toInt := fun t => z2 (Int32.toInt_inj.mp t)
          omega)
      have a := po_cn_all (p := fun _ => true) 16 (fun _ _ => rfl)
      omega
/-- there is a value with no lesser one -/
theorem po_least (g : Nat → Int32) : ∃ i, i < 16 ∧ po_cn (po_ls g (g i)) 16 = 0 := by
  obtain ⟨i, hi, _, m⟩ := po_min g (fun _ => True) 16 ⟨0, by omega, trivial⟩
  refine ⟨i, hi, po_cn_0 16 fun j hj => ?_⟩
  simp only [po_ls, decide_eq_false_iff_not]
  exact Int32.not_lt.mpr (m j hj trivial)
