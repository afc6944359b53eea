section
theorem pk_us {f : Nat → Int32} {k : Nat} {x : Int32} : upd f k x k = x := if_pos rfl
theorem pk_un {f : Nat → Int32} {k j : Nat} {x : Int32} (h : j ≠ k) : upd f k x j = f j := if_neg h
theorem pk_sub {a b : Nat} (h : b ≤ a) : nI a - nI b = nI (a - b) := by
  obtain ⟨c, rfl⟩ : ∃ c, a = c + b := ⟨a - b, by omega⟩
  rw [← nI_add, Int32.add_sub_cancel, Nat.add_sub_cancel]
theorem pk_m1 (n : Nat) : nI (n + 1) + (-1) = nI n := by
  rw [← nI_1, Int32.add_assoc, show (1 : Int32) + (-1) = 0 from rfl, Int32.add_zero]
theorem pk_mul (a b : Nat) : nI a * nI b = nI (a * b) := (Int32.ofNat_mul a b).symm
theorem pk_div {a d : Nat} (ha : a < 2 ^ 31) (h0 : 0 < d) (hd : d < 2 ^ 31) : nI a / nI d = nI (a / d) := by
  apply Int32.toInt_inj.mp
  rw [lg_idiv_nonneg (by rw [nI_toInt ha]; omega) (by rw [nI_toInt hd]; omega), nI_toInt ha, nI_toInt hd, nI_toInt (Nat.lt_of_le_of_lt (Nat.div_le_self a d) ha)]
  first | rfl | exact (Int.natCast_ediv _ _).symm
theorem pk_ix (x : Int32) {n : Nat} (hn : n < 2 ^ 31) : x < 0 ∨ nI n ≤ x ∨ ∃ j : Nat, j < n ∧ x = nI j := by
  by_cases h : x < 0
  · exact Or.inl h
  · obtain ⟨j, hj, rfl⟩ := nI_of h
    by_cases h2 : j < n
    · exact Or.inr (Or.inr ⟨j, h2, rfl⟩)
    · exact Or.inr (Or.inl (nI_le (by omega) hj))
theorem pk_le {x y : Int32} {A B : Prop} (a b : Nat) (f : a ≤ b → A) (g : b < a → B) (hx : x = nI a := by rfl) (hy : y = nI b := by rfl) (ha : a < 2 ^ 31 := by omega) (hb : b < 2 ^ 31 := by omega) : (x ≤ y → A) ∧ (¬ x ≤ y → B) := by
  subst hx hy
  rw [nI_leI ha hb]
  exact ⟨f, fun z => g (by omega)⟩
theorem pk_lt {x y : Int32} {A B : Prop} (a b : Nat) (f : a < b → A) (g : b ≤ a → B) (hx : x = nI a := by rfl) (hy : y = nI b := by rfl) (ha : a < 2 ^ 31 := by omega) (hb : b < 2 ^ 31 := by omega) : (x < y → A) ∧ (¬ x < y → B) := by
  subst hx hy
  rw [nI_ltI ha hb]
  exact ⟨f, fun z => g (by omega)⟩
theorem pk_eq {x y : Int32} {A B : Prop} (a b : Nat) (f : a = b → A) (g : a ≠ b → B) (hx : x = nI a := by rfl) (hy : y = nI b := by rfl) (ha : a < 2 ^ 31 := by omega) (hb : b < 2 ^ 31 := by omega) : (x = y → A) ∧ (¬ x = y → B) := by
  subst hx hy
  rw [nI_eq ha hb]
  exact ⟨f, g⟩
theorem pk_in {x : Int32} (n N : Nat) (h : n < N) (hx : x = nI n := by rfl) (hN : N < 2 ^ 31 := by omega) : vp_in x N := by
  subst hx
  exact vp_in_nI h hN
theorem pk_cl {x : Int32} (n : Nat) (hx : x = nI n := by rfl) (h : n < 2 ^ 31 := by omega) : x.toNatClampNeg = n := by
  subst hx
  exact nI_clamp h
theorem pk_tn {n : Nat} (h : n < 2 ^ 32) : (nI n).toBitVec.toNat = n := Nat.mod_eq_of_lt h
theorem pk_and (x : Int32) {m : Int32} (k : Nat) (hm : m.toBitVec.toNat = 2 ^ k - 1) : x &&& m = nI (x.toBitVec.toNat % 2 ^ k) := by
  apply Int32.toBitVec_inj.mp
  apply BitVec.eq_of_toNat_eq
  rw [Int32.toBitVec_and, BitVec.toNat_and, hm, Nat.and_two_pow_sub_one_eq_mod]
  show _ = (BitVec.ofNat 32 _).toNat
  rw [BitVec.toNat_ofNat]
  exact (Nat.mod_eq_of_lt (Nat.lt_of_le_of_lt (Nat.mod_le _ _) x.toBitVec.isLt)).symm
theorem pk_andE (x : Int32) {m : Int32} (k : Nat) (hm : m.toBitVec.toNat = 2 ^ k - 1) : ∃ j : Nat, j < 2 ^ k ∧ x &&& m = nI j := ⟨_, Nat.mod_lt _ (Nat.two_pow_pos k), pk_and x k hm⟩
theorem pk_andIn (x : Int32) {m : Int32} (k : Nat) (hm : m.toBitVec.toNat = 2 ^ k - 1) (hk : k ≤ 30) : vp_in (x &&& m) (2 ^ k) := by
  obtain ⟨j, hj, e⟩ := pk_andE x k hm
  rw [e]
  exact vp_in_nI hj (Nat.lt_of_le_of_lt (Nat.pow_le_pow_right (by decide) hk) (by decide))
theorem pk_shr (a s : Int32) (k : Nat) (hs : (s.toBitVec.smod 32).toNat = k) : (a >>> s).toInt = a.toInt >>> k := by
  show (a.toBitVec.sshiftRight (s.toBitVec.smod 32).toNat).toInt = _
  rw [hs, BitVec.toInt_sshiftRight]
  rfl
theorem pk_shrN {n : Nat} (h : n < 2 ^ 31) (s : Int32) (k : Nat) (hs : (s.toBitVec.smod 32).toNat = k) : nI n >>> s = nI (n / 2 ^ k) := by
  apply Int32.toInt_inj.mp
  have h2 : n / 2 ^ k ≤ n := Nat.div_le_self _ _
  rw [pk_shr _ _ k hs, nI_toInt h, nI_toInt (by omega), Int.shiftRight_eq_div_pow]
  rfl
theorem pk_ushr (x s : Int32) (k : Nat) (hs : ((s.toUInt32 &&& Int32.toUInt32 31).toBitVec % 32).toNat = k) : (x.toUInt32 >>> (s.toUInt32 &&& Int32.toUInt32 31)).toInt32.toBitVec.toNat = x.toBitVec.toNat / 2 ^ k := by
  have e : (x.toUInt32 >>> (s.toUInt32 &&& Int32.toUInt32 31)).toInt32.toBitVec = x.toBitVec >>> k := by
    rw [← hs]
    exact UInt32.toBitVec_shiftRight _ _
  rw [e, BitVec.toNat_ushiftRight, Nat.shiftRight_eq_div_pow]
theorem pk_loop {σ : Type} (W : Nat → Nat → σ → Prop) (I : Nat → σ → Prop) (e i0 : Nat) (s : σ) (hi : i0 ≤ e) (h0 : I i0 s) (hx : ∀ n s, I e s → W (n + 1) e s)
    (hs : ∀ n i s, i < e → I i s → (∀ s', I (i + 1) s' → W n (i + 1) s') → W (n + 1) i s) : ∃ n, W n i0 s :=
  ⟨e + 1, loop_i W I e hx hs (e + 1) i0 s hi (by omega) h0⟩
theorem pk_loopD {σ : Type} (W : Nat → Nat → σ → Prop) (I : Nat → σ → Prop) (hx : ∀ n s, I 0 s → W (n + 1) 0 s)
    (hs : ∀ n i s, I (i + 1) s → (∀ s', I i s' → W n i s') → W (n + 1) (i + 1) s) : ∀ (e : Nat) (s : σ), I e s → W (e + 1) e s := by
  intro e
  induction e with
  | zero => exact fun s h => hx 0 s h
  | succ e ih => exact fun s h => hs (e + 1) e s h (fun s' h' => ih s' h')
theorem ek_if {c d A B : Prop} (e : c ↔ d) (f : d → A) (g : ¬ d → B) : (c → A) ∧ (¬ c → B) :=
  ⟨fun z => f (e.mp z), fun z => g (fun y => z (e.mpr y))⟩
theorem ek_v {α : Sort _} {P : α → Prop} {a b : α} (e : a = b) (h : P b) : P a := e ▸ h
def po_bk (l d : Nat) : Nat := (8 + l) / 2 ^ (3 - d) - 1
def po_up (f : Nat → Nat) (k x : Nat) : Nat → Nat := fun j => if j = k then x else f j
theorem po_ups {f : Nat → Nat} {k x : Nat} : po_up f k x k = x := if_pos rfl
theorem po_upn {f : Nat → Nat} {k j x : Nat} (h : j ≠ k) : po_up f k x j = f j := if_neg h
theorem po_bk15 : ∀ l, l < 8 → ∀ d, d < 4 → po_bk l d < 15 := by decide
theorem po_bkinj : ∀ l, l < 8 → ∀ d, d < 4 → ∀ e, e < 4 → po_bk l d = po_bk l e → d = e := by decide
theorem po_m1 {b : Nat} (h : b < 16) : ¬ nI b = -1 := by
  intro e
  have q := congrArg Int32.toInt e
  rw [nI_toInt (by omega)] at q
  have z : (-1 : Int32).toInt = -1 := by decide
  omega
theorem po_inj {a b : Nat} (ha : a < 16) (hb : b < 16) (h : nI a = nI b) : a = b := (nI_eq (by omega) (by omega)).mp h
/-- block b has one home: the stash (60), or a slot whose bucket is on its leaf's path; its value lies there -/
def po_Bl (h lf : Nat → Nat) (g S V L I T : Nat → Int32) (b : Nat) : Prop :=
  lf b < 8 ∧ L b = nI (lf b) ∧ ((h b = 60 ∧ I b = 1 ∧ T b = g b) ∨ (h b < 60 ∧ I b = 0 ∧ S (h b) = nI b ∧ V (h b) = g b ∧ ∃ d, d < 4 ∧ h b / 4 = po_bk (lf b) d))
def po_Inv (h lf : Nat → Nat) (g S V L I T : Nat → Int32) : Prop :=
  (∀ b, b < 16 → po_Bl h lf g S V L I T b) ∧ (∀ s, s < 60 → S s = -1 ∨ ∃ b, b < 16 ∧ S s = nI b ∧ h b = s)
theorem po_hm {h lf : Nat → Nat} {g S V L I T : Nat → Int32} (H : po_Inv h lf g S V L I T) {s b : Nat} (hs : s < 60) (hb : b < 16) (e : S s = nI b) : h b = s := by
  rcases H.2 s hs with z | ⟨c, hc, z, q⟩
  · exact absurd (e.symm.trans z) (po_m1 hb)
  · rw [po_inj hb hc (e.symm.trans z)]; exact q
/-- a slot is emptied into the stash -/
theorem po_empty {h lf : Nat → Nat} {g S V L I T : Nat → Int32} (H : po_Inv h lf g S V L I T) {s b : Nat} (hs : s < 60) (hb : b < 16) (e : S s = nI b) : po_Inv (po_up h b 60) lf g (upd S s (-1)) (upd V s 0) L (upd I b 1) (upd T b (V s)) := by
  have hh : h b = s := po_hm H hs hb e
  obtain ⟨l1, l2, c⟩ := H.1 b hb
  have hv : V s = g b := by
    rcases c with ⟨c, _⟩ | ⟨_, _, _, c, _⟩
    · omega
    · rw [← hh]; exact c
  refine ⟨fun j hj => ?_, fun t ht => ?_⟩
  · by_cases q : j = b
    · rw [q]
      exact ⟨l1, l2, .inl ⟨po_ups, pk_us, by rw [pk_us]; exact hv⟩⟩
    · obtain ⟨m1, m2, c'⟩ := H.1 j hj
      refine ⟨m1, m2, ?_⟩
      rcases c' with ⟨c1, c2, c3⟩ | ⟨c1, c2, c3, c4, c5⟩
      · exact .inl ⟨by rw [po_upn q]; exact c1, by rw [pk_un q]; exact c2, by rw [pk_un q]; exact c3⟩
      · have n : h j ≠ s := by
          intro z
          rw [z, e] at c3
          exact q (po_inj hb hj c3).symm
        exact .inr ⟨by rw [po_upn q]; exact c1, by rw [pk_un q]; exact c2, by rw [po_upn q, pk_un n]; exact c3, by rw [po_upn q, pk_un n]; exact c4, by rw [po_upn q]; exact c5⟩
  · by_cases q : t = s
    · rw [q]; exact .inl pk_us
    · rw [pk_un q]
      rcases H.2 t ht with z | ⟨c, hc, z, y⟩
      · exact .inl z
      · have n : c ≠ b := by
          intro w
          rw [w] at y
          exact q (y.symm.trans hh)
        exact .inr ⟨c, hc, z, by rw [po_upn n]; exact y⟩
/-- a block in the stash may get a new leaf -/
theorem po_leaf {h lf : Nat → Nat} {g S V L I T : Nat → Int32} (H : po_Inv h lf g S V L I T) {b l : Nat} (hb : b < 16) (hh : h b = 60) (hl : l < 8) : po_Inv h (po_up lf b l) g S V (upd L b (nI l)) I T := by
  refine ⟨fun j hj => ?_, H.2⟩
  obtain ⟨m1, m2, c⟩ := H.1 j hj
  by_cases q : j = b
  · rw [q] at c ⊢
    refine ⟨by rw [po_ups]; exact hl, by rw [po_ups, pk_us], ?_⟩
    rcases c with c | ⟨c1, _⟩
    · exact .inl c
    · omega
  · refine ⟨by rw [po_upn q]; exact m1, by rw [po_upn q, pk_un q]; exact m2, ?_⟩
    rw [po_upn q]
    exact c
/-- a block in the stash may get a new value -/
theorem po_write {h lf : Nat → Nat} {g S V L I T : Nat → Int32} (H : po_Inv h lf g S V L I T) {b : Nat} (hb : b < 16) (hh : h b = 60) (x : Int32) : po_Inv h lf (upd g b x) S V L I (upd T b x) := by
  refine ⟨fun j hj => ?_, H.2⟩
  obtain ⟨m1, m2, c⟩ := H.1 j hj
  refine ⟨m1, m2, ?_⟩
  by_cases q : j = b
  · rw [q] at c ⊢
    rcases c with ⟨c1, c2, c3⟩ | ⟨c1, _⟩
    · exact .inl ⟨c1, c2, by rw [pk_us, pk_us]⟩
    · omega
  · rw [pk_un q, pk_un q]
    exact c
/-- a block in the stash is put into an empty slot on its path -/
theorem po_put {h lf : Nat → Nat} {g S V L I T : Nat → Int32} (H : po_Inv h lf g S V L I T) {s b d : Nat} (hs : s < 60) (hb : b < 16) (e : S s = -1) (hh : h b = 60) (hd : d < 4) (hp : s / 4 = po_bk (lf b) d) : po_Inv (po_up h b s) lf g (upd S s (nI b)) (upd V s (T b)) L (upd I b 0) (upd T b 0) := by
  obtain ⟨l1, l2, c⟩ := H.1 b hb
  have hv : T b = g b := by
    rcases c with ⟨_, _, c⟩ | ⟨c, _⟩
    · exact c
    · omega
  refine ⟨fun j hj => ?_, fun t ht => ?_⟩
  · by_cases q : j = b
    · rw [q]
      exact ⟨l1, l2, .inr ⟨by rw [po_ups]; exact hs, pk_us, by rw [po_ups, pk_us], by rw [po_ups, pk_us]; exact hv, d, hd, by rw [po_ups]; exact hp⟩⟩
    · obtain ⟨m1, m2, c'⟩ := H.1 j hj
      refine ⟨m1, m2, ?_⟩
      rcases c' with ⟨c1, c2, c3⟩ | ⟨c1, c2, c3, c4, c5⟩
      · exact .inl ⟨by rw [po_upn q]; exact c1, by rw [pk_un q]; exact c2, by rw [pk_un q]; exact c3⟩
      · have n : h j ≠ s := by
          intro z
          rw [z, e] at c3
          exact po_m1 hj c3.symm
        exact .inr ⟨by rw [po_upn q]; exact c1, by rw [pk_un q]; exact c2, by rw [po_upn q, pk_un n]; exact c3, by rw [po_upn q, pk_un n]; exact c4, by rw [po_upn q]; exact c5⟩
  · by_cases q : t = s
    · rw [q]
      exact .inr ⟨b, hb, pk_us, po_ups⟩
    · rw [pk_un q]
      rcases H.2 t ht with z | ⟨c, hc, z, y⟩
      · exact .inl z
      · have n : c ≠ b := by
          intro w
          rw [w, hh] at y
          omega
        exact .inr ⟨c, hc, z, by rw [po_upn n]; exact y⟩
/-- when the path of its leaf is empty, a block lies in the stash -/
theorem po_home {h lf : Nat → Nat} {g S V L I T : Nat → Int32} (H : po_Inv h lf g S V L I T) {b : Nat} (hb : b < 16) (he : ∀ s, s < 60 → ∀ d, d < 4 → s / 4 = po_bk (lf b) d → S s = -1) : h b = 60 ∧ T b = g b := by
  obtain ⟨_, _, c⟩ := H.1 b hb
  rcases c with ⟨c1, _, c3⟩ | ⟨c1, _, c3, _, d, hd, c5⟩
  · exact ⟨c1, c3⟩
  · exact absurd ((he _ c1 d hd c5).symm.trans c3).symm (po_m1 hb)
/-- in the stash: by the flag -/
theorem po_st {h lf : Nat → Nat} {g S V L I T : Nat → Int32} (H : po_Inv h lf g S V L I T) {b : Nat} (hb : b < 16) : (h b = 60 ∧ I b = 1) ∨ (h b < 60 ∧ I b = 0) := by
  obtain ⟨_, _, c⟩ := H.1 b hb
  rcases c with ⟨c1, c2, _⟩ | ⟨c1, c2, _⟩
  · exact .inl ⟨c1, c2⟩
  · exact .inr ⟨c1, c2⟩
end
section
def po_cn (p : Nat → Bool) : Nat → Nat
  | 0 => 0
  | n + 1 => po_cn p n + (if p n = true then 1 else 0)
theorem po_cn_le (p : Nat → Bool) : ∀ n, po_cn p n ≤ n := by
  intro n
  induction n with
  | zero => exact Nat.le_refl 0
  | succ n ih => rw [po_cn]; split <;> omega
theorem po_cn_0 {p : Nat → Bool} : ∀ n, (∀ j, j < n → p j = false) → po_cn p n = 0 := by
  intro n
  induction n with
  | zero => intro _; rfl
  | succ n ih =>
    intro h
    rw [po_cn, ih (fun j hj => h j (by omega)), h n (by omega)]
    simp
theorem po_cn_all {p : Nat → Bool} : ∀ n, (∀ j, j < n → p j = true) → po_cn p n = n := by
  intro n
  induction n with
  | zero => intro _; rfl
  | succ n ih =>
    intro h
    rw [po_cn, ih (fun j hj => h j (by omega)), h n (by omega)]
    simp
/-- two that never hold together, both within a third -/
theorem po_cn_add {p q r : Nat → Bool} : ∀ n, (∀ j, j < n → (p j = true → q j = false ∧ r j = true) ∧ (q j = true → p j = false ∧ r j = true)) → po_cn p n + po_cn q n ≤ po_cn r n := by
  intro n
  induction n with
  | zero => intro _; exact Nat.le_refl 0
  | succ n ih =>
    intro h
    have i := ih (fun j hj => h j (by omega))
    obtain ⟨a, b⟩ := h n (by omega)
    rw [po_cn, po_cn, po_cn]
    by_cases hp : p n = true
    · obtain ⟨a1, a2⟩ := a hp
      rw [hp, a1, a2]; simp; omega
    · by_cases hq : q n = true
      · obtain ⟨b1, b2⟩ := b hq
        rw [hq, b1, b2]; simp; omega
      · rw [if_neg hp, if_neg hq]; omega
/-- one that lies within two others together -/
theorem po_cn_sub {p q r : Nat → Bool} : ∀ n, (∀ j, j < n → r j = true → p j = true ∨ q j = true) → po_cn r n ≤ po_cn p n + po_cn q n := by
  intro n
  induction n with
  | zero => intro _; exact Nat.le_refl 0
  | succ n ih =>
    intro h
    have i := ih (fun j hj => h j (by omega))
    rw [po_cn, po_cn, po_cn]
    by_cases hr : r n = true
    · rcases h n (by omega) hr with a | a
      · rw [if_pos a]; split <;> split <;> omega
      · rw [if_pos a]; split <;> split <;> omega
    · rw [if_neg hr]; split <;> split <;> omega
theorem po_min (g : Nat → Int32) (q : Nat → Prop) : ∀ n, (∃ j, j < n ∧ q j) → ∃ i, i < n ∧ q i ∧ ∀ j, j < n → q j → g i ≤ g j := by
  intro n
  induction n with
  | zero => intro ⟨j, hj, _⟩; omega
  | succ n ih =>
    intro ⟨j, hj, hq⟩
    by_cases e : ∃ j, j < n ∧ q j
    · obtain ⟨i, hi, qi, m⟩ := ih e
      by_cases c : q n ∧ g n < g i
      · refine ⟨n, by omega, c.1, fun t ht qt => ?_⟩
        by_cases z : t = n
        · rw [z]; exact Int32.le_refl _
        · have := m t (by omega) qt
          have c2 := c.2
          rw [Int32.le_iff_toInt_le] at this ⊢
          rw [Int32.lt_iff_toInt_lt] at c2
          omega
      · refine ⟨i, by omega, qi, fun t ht qt => ?_⟩
        by_cases z : t = n
        · rw [z] at qt ⊢
          have : ¬ g n < g i := fun w => c ⟨qt, w⟩
          exact Int32.not_lt.mp this
        · exact m t (by omega) qt
    · have z : j = n := by
        apply Classical.byContradiction
        intro w
        exact e ⟨j, by omega, hq⟩
      rw [z] at hq
      refine ⟨n, by omega, hq, fun t ht qt => ?_⟩
      by_cases z : t = n
      · rw [z]; exact Int32.le_refl _
      · exact absurd ⟨t, by omega, qt⟩ e
def po_ls (g : Nat → Int32) (x : Int32) : Nat → Bool := fun j => decide (g j < x)
def po_sm (g : Nat → Int32) (x : Int32) : Nat → Bool := fun j => decide (g j = x)
/-- the greatest value with at most k lesser ones: the one that the reference's test finds, and no other -/
theorem po_rank (g : Nat → Int32) (k : Nat) (hk : k < 16) (x : Int32) (i0 : Nat) (h0 : i0 < 16) (e0 : x = g i0) (hx : po_cn (po_ls g x) 16 ≤ k) (hm : ∀ j, j < 16 → po_cn (po_ls g (g j)) 16 ≤ k → g j ≤ x) (i : Nat) (hi : i < 16) : (po_cn (po_ls g (g i)) 16 ≤ k ∧ k < po_cn (po_ls g (g i)) 16 + po_cn (po_sm g (g i)) 16) ↔ g i = x := by
  constructor
  · intro ⟨a, b⟩
    have c := hm i hi a
    apply Classical.byContradiction
    intro ne
    have lt : g i < x := by
      rw [Int32.le_iff_toInt_le] at c
      rw [Int32.lt_iff_toInt_lt]
      have : (g i).toInt ≠ x.toInt := fun z => ne (Int32.toInt_inj.mp z)
      omega
    have s := po_cn_add (p := po_ls g (g i)) (q := po_sm g (g i)) (r := po_ls g x) 16 (by
      intro j _
      simp only [po_ls, po_sm, decide_eq_true_eq, decide_eq_false_iff_not]
      rw [Int32.lt_iff_toInt_lt] at lt
      refine ⟨fun y => ⟨fun z => ?_, ?_⟩, fun y => ⟨?_, ?_⟩⟩
      · rw [z] at y; exact absurd y Int32.lt_irrefl
      · rw [Int32.lt_iff_toInt_lt] at y ⊢; omega
      · rw [y]; exact Int32.lt_irrefl
      · rw [y, Int32.lt_iff_toInt_lt]; exact lt)
    omega
  · intro e
    rw [e]
    refine ⟨hx, ?_⟩
    apply Classical.byContradiction
    intro ng
    by_cases ex : ∃ j, j < 16 ∧ x < g j
    · obtain ⟨w, hw, qw, mw⟩ := po_min g (fun j => x < g j) 16 ex
      have s := po_cn_sub (p := po_ls g x) (q := po_sm g x) (r := po_ls g (g w)) 16 (by
        intro j hj
        simp only [po_ls, po_sm, decide_eq_true_eq]
        intro y
        by_cases z : x < g j
        · have := mw j hj z
          rw [Int32.le_iff_toInt_le] at this
          rw [Int32.lt_iff_toInt_lt] at y
          omega
        · by_cases z2 : g j = x
          · exact .inr z2
          · refine .inl ?_
            rw [Int32.lt_iff_toInt_lt] at z ⊢
            have : (g j).toInt ≠ x.toInt := fun t => z2 (Int32.toInt_inj.mp t)
            omega)
      have := hm w hw (by omega)
      rw [Int32.le_iff_toInt_le] at this
      rw [Int32.lt_iff_toInt_lt] at qw
      omega
    · have s := po_cn_sub (p := po_ls g x) (q := po_sm g x) (r := fun _ => true) 16 (by
        intro j hj _
        simp only [po_ls, po_sm, decide_eq_true_eq]
        by_cases z2 : g j = x
        · exact .inr z2
        · refine .inl ?_
          have z : ¬ x < g j := fun y => ex ⟨j, hj, y⟩
          rw [Int32.lt_iff_toInt_lt] at z ⊢
          have : (g j).toInt ≠ x.toInt := fun t => z2 (Int32.toInt_inj.mp t)
          omega)
      have a := po_cn_all (p := fun _ => true) 16 (fun _ _ => rfl)
      omega
/-- there is a value with no lesser one -/
theorem po_least (g : Nat → Int32) : ∃ i, i < 16 ∧ po_cn (po_ls g (g i)) 16 = 0 := by
  obtain ⟨i, hi, _, m⟩ := po_min g (fun _ => True) 16 ⟨0, by omega, trivial⟩
  refine ⟨i, hi, po_cn_0 16 fun j hj => ?_⟩
  simp only [po_ls, decide_eq_false_iff_not]
  exact Int32.not_lt.mpr (m j hj trivial)
end
section
theorem po_b1 : vp_nar .boolean 1 = 1 := by rfl
theorem po_b0 : vp_nar .boolean 0 = 0 := by rfl
theorem po_uc {f : Nat → Int32} {k : Nat} {x : Int32} (h : k < 100) : upd f (nI k).toNatClampNeg x = upd f k x := by rw [nI_clamp (by omega)]
theorem po_uc1 {f : Nat → Int32} {k : Nat} (h : k < 100) : upd f (nI k).toNatClampNeg (vp_nar .boolean 1) = upd f k 1 := by rw [nI_clamp (by omega), po_b1]
theorem po_uc0 {f : Nat → Int32} {k : Nat} (h : k < 100) : upd f (nI k).toNatClampNeg (vp_nar .boolean 0) = upd f k 0 := by rw [nI_clamp (by omega), po_b0]
theorem po_uv {f p : Nat → Int32} {k j : Nat} (h : k < 100) (hj : j < 100) : upd f (nI k).toNatClampNeg (p (nI j).toNatClampNeg) = upd f k (p j) := by rw [nI_clamp (by omega), nI_clamp (by omega)]
theorem po_at {f : Nat → Int32} {k : Nat} (h : k < 100) : f (nI k).toNatClampNeg = f k := by rw [nI_clamp (by omega)]
theorem po_16 {b : Nat} (h : b < 16) : vp_in (nI b) 16 := vp_in_nI h (by omega)
theorem po_60 {b : Nat} (h : b < 60) : vp_in (nI b) 60 := vp_in_nI h (by omega)
theorem po_10 : ¬ (1 : Int32) = 0 := by decide
theorem po_ge16 {b : Nat} (h : b < 16) : ¬ (16 : Int32) ≤ nI b := nI_ge (b := 16) h (by decide)
theorem po_le16 : (16 : Int32) ≤ nI 16 := nI_le (a := 16) (by omega) (by decide)
theorem po_ofN (x : Int32) : x = nI x.toBitVec.toNat := by
  apply Int32.toBitVec_inj.mp
  apply BitVec.eq_of_toNat_eq
  exact (pk_tn x.toBitVec.isLt).symm
theorem po_lf (f : Int32) : ∃ l, l < 8 ∧ (f.toUInt32 >>> ((29 : Int32).toUInt32 &&& Int32.toUInt32 31)).toInt32 = nI l := by
  refine ⟨_, ?_, po_ofN _⟩
  rw [pk_ushr f 29 29 (by decide)]
  have := f.toBitVec.isLt
  omega
theorem po_draw {post : Int32 → SX → Prop} {sh tc : Int32} {S V L I T sv ga : Nat → Int32} (H : ∀ (sh' : Int32) (l : Nat), l < 8 → post (nI l) (sh', tc, S, V, L, I, T, sv, ga)) : wpX_drawLeaf post (sh, tc, S, V, L, I, T, sv, ga) := by
  intro f ef
  obtain ⟨l, hl, e⟩ := po_lf f
  rw [e]
  exact H f l hl
theorem po_bat : ∀ l, l < 8 → ∀ d, d < 4 → ((8 + nI l) >>> ((3 - nI d) &&& 31)) - 1 = nI (po_bk l d) := by decide +kernel
theorem po_bucket {post : Int32 → Prop} {x y : Int32} {l d : Nat} (hl : l < 8) (hd : d < 4) (hx : x = nI l) (hy : y = nI d) (H : post (nI (po_bk l d))) : wpX_bucketAt post x y := by
  subst hx hy
  exact ek_v (P := post) (po_bat l hl d hd) H
theorem po_isB {post : Int32 → Prop} {b : Nat} (hb : b < 16) (H : post 1) : wpX_isBlock post (nI b) := br_f (nI_pos (by omega)) (br_f (po_ge16 hb) H)
theorem po_isM {post : Int32 → Prop} (H : post 0) : wpX_isBlock post (-1) := br_t (by decide) H
theorem po_keep {S : Nat → Int32} {s i : Nat} (h : S s = -1) : upd S i (-1) s = -1 := by
  by_cases e : s = i
  · rw [e]; exact pk_us
  · rw [pk_un e]; exact h
theorem po_emptyL {post : SX → Prop} {sh tc : Int32} {L sv ga g : Nat → Int32} {lf : Nat → Nat} {q : Nat} (hq : q < 15) (A : Nat → Prop)
    (H : ∀ h S V I T, po_Inv h lf g S V L I T → (∀ s, s < 60 → A s → S s = -1) → (∀ s, q * 4 ≤ s → s < q * 4 + 4 → S s = -1) → post (sh, tc, S, V, L, I, T, sv, ga)) :
    ∀ d i h S V I T, i + d = q * 4 + 4 → q * 4 ≤ i → po_Inv h lf g S V L I T → (∀ s, s < 60 → A s → S s = -1) → (∀ s, q * 4 ≤ s → s < i → S s = -1) → wX_emptyBucket_6 post (nI (q * 4)) sh tc (d + 1) (nI i) S V L I T sv ga := by
  have e4 : nI (q * 4) + 4 = nI (q * 4 + 4) := nI_add (q * 4) 4
  intro d
  induction d with
  | zero =>
    intro i h S V I T hi h4 K HA HE
    refine br_t ?_ (H h S V I T K HA (fun s a b => HE s a (by omega)))
    rw [e4]
    exact nI_le (by omega) (by omega)
  | succ d ih =>
    intro i h S V I T hi h4 K HA HE
    have h60 : i < 60 := by omega
    refine br_f ?_ ⟨po_60 h60, ?_⟩
    · rw [e4]
      exact nI_ge (by omega) (by omega)
    rcases K.2 i h60 with e | ⟨b, hb, e, hh⟩
    · refine nm_r (e' := -1) ((po_at (by omega)).trans e) (po_isM (br_t rfl (nm_r (nI_1 i) (ih (i + 1) h S V I T (by omega) (by omega) K HA ?_))))
      intro s a b
      by_cases z : s = i
      · rw [z]; exact e
      · exact HE s a (by omega)
    · refine nm_r (e' := nI b) ((po_at (by omega)).trans e) (po_isB hb (br_f po_10 ⟨po_60 h60, po_16 hb, nm_r (po_uv (by omega) (by omega)) ⟨po_16 hb, nm_r (po_uc1 (by omega)) ⟨po_60 h60, nm_r (po_uc (by omega)) ⟨po_60 h60, nm_r (po_uc (by omega)) (nm_r (nI_1 i) (ih (i + 1) _ _ _ _ _ (by omega) (by omega) (po_empty K h60 hb e) ?_ ?_))⟩⟩⟩⟩))
      · exact fun s hs a => po_keep (HA s hs a)
      · intro s a b
        by_cases z : s = i
        · rw [z]; exact pk_us
        · exact po_keep (HE s a (by omega))
theorem po_emptyB {post : SX → Prop} {sh tc : Int32} {S V L I T sv ga g : Nat → Int32} {h lf : Nat → Nat} {q : Nat} (hq : q < 15) (A : Nat → Prop) (K : po_Inv h lf g S V L I T) (HA : ∀ s, s < 60 → A s → S s = -1)
    (H : ∀ h S V I T, po_Inv h lf g S V L I T → (∀ s, s < 60 → A s → S s = -1) → (∀ s, q * 4 ≤ s → s < q * 4 + 4 → S s = -1) → post (sh, tc, S, V, L, I, T, sv, ga)) :
    wpX_emptyBucket post (sh, tc, S, V, L, I, T, sv, ga) (nI q) :=
  nm_r (pk_mul q 4) ⟨4 + 1, po_emptyL hq A H 4 (q * 4) h S V I T rfl (Nat.le_refl _) K HA (fun s a b => by omega)⟩
theorem po_openL {post : Int32 → SX → Prop} {L sv ga g : Nat → Int32} {lf : Nat → Nat} {b l : Nat} (hb : b < 16) (hl : l < 8) (el : lf b = l)
    (H : ∀ sh h lf S V L I T, po_Inv h lf g S V L I T → h b = 60 → (∀ s, s < 60 → ∀ e, e < 4 → s / 4 = po_bk l e → S s = -1) → post (nI l) (sh, 4, S, V, L, I, T, sv, ga)) :
    ∀ d j, j + d = 4 → ∀ sh h S V I T, po_Inv h lf g S V L I T → (∀ s, s < 60 → ∀ e, e < j → s / 4 = po_bk l e → S s = -1) → wX_openPathOf_14 post (nI b) (nI l) (d + 1) (nI j) sh (nI j) S V L I T sv ga := by
  intro d
  induction d with
  | zero =>
    intro j hj sh h S V I T K HE
    have ej : j = 4 := by omega
    subst ej
    have hh := (po_home K hb (fun s hs e he q => HE s hs e he (by rw [← el]; exact q))).1
    refine br_t (nI_lt (a := 3) (b := 4) (by omega) (by omega)) (po_draw fun sh' l' hl' => ?_)
    exact ⟨po_16 hb, nm_r (po_uc (by omega)) (H sh' h (po_up lf b l') S V _ I T (po_leaf K hb hh hl') hh HE)⟩
  | succ d ih =>
    intro j hj sh h S V I T K HE
    refine br_f (nI_nlt (a := 3) (b := j) (by omega) (by omega)) (po_bucket (d := j) hl (by omega) rfl rfl (po_emptyB (po_bk15 l hl j (by omega)) (fun s => ∃ e, e < j ∧ s / 4 = po_bk l e) K (fun s hs ⟨e, he, q⟩ => HE s hs e he q) (fun h S V I T K HA HB => ?_)))
    refine nm_r (nI_1 j) (nm_r (nI_1 j) (ih (j + 1) (by omega) _ h S V I T K ?_))
    intro s hs e he q
    by_cases z : e < j
    · exact HA s hs ⟨e, z, q⟩
    · have ze : e = j := by omega
      rw [ze] at q
      exact HB s (by omega) (by omega)
theorem po_open {post : Int32 → SX → Prop} {sh tc : Int32} {S V L I T sv ga g : Nat → Int32} {h lf : Nat → Nat} {b : Nat} (hb : b < 16) (K : po_Inv h lf g S V L I T)
    (H : ∀ l, l < 8 → ∀ sh h lf S V L I T, po_Inv h lf g S V L I T → h b = 60 → (∀ s, s < 60 → ∀ e, e < 4 → s / 4 = po_bk l e → S s = -1) → post (nI l) (sh, 4, S, V, L, I, T, sv, ga)) :
    wpX_openPathOf post (sh, tc, S, V, L, I, T, sv, ga) (nI b) :=
  ⟨po_16 hb, nm_r (e' := nI (lf b)) ((po_at (by omega)).trans (K.1 b hb).2.1) ⟨4 + 1, po_openL hb (K.1 b hb).1 rfl (H _ (K.1 b hb).1) 4 0 rfl sh h S V I T K (fun s _ e he => by omega)⟩⟩
theorem po_refL {post : SX → Prop} {sh tc : Int32} {L sv ga g : Nat → Int32} {lf : Nat → Nat} {q d : Nat} (hq : q < 15) (hd : d < 4) (A : Nat → Prop) (HN : ∀ t, A t → t / 4 ≠ q)
    (H : ∀ h S V I T, po_Inv h lf g S V L I T → (∀ t, t < 60 → A t → S t = -1) → post (sh, tc, S, V, L, I, T, sv, ga)) :
    ∀ m b, b + m = 16 → ∀ s h S V I T, q * 4 ≤ s → po_Inv h lf g S V L I T → (∀ t, t < 60 → A t → S t = -1) → (∀ t, s ≤ t → t < q * 4 + 4 → S t = -1) → s ≤ q * 4 + 4 → wX_refillBucket_20 post (nI d) (nI q) (nI (q * 4 + 4)) sh tc (m + 1) (nI s) (nI b) S V L I T sv ga := by
  intro m
  induction m with
  | zero =>
    intro b hb s h S V I T hs K HA HE hs4
    have eb : b = 16 := by omega
    subst eb
    exact br_t po_le16 (H h S V I T K HA)
  | succ m ih =>
    intro b hb s h S V I T hs K HA HE hs4
    have hb16 : b < 16 := by omega
    refine br_f (po_ge16 hb16) ?_
    by_cases c : q * 4 + 4 ≤ s
    · exact br_t (nI_le c (by omega)) (H h S V I T K HA)
    refine br_f (nI_ge (by omega) (by omega)) ⟨po_16 hb16, ?_⟩
    have h60 : s < 60 := by omega
    rcases po_st K hb16 with ⟨hh, e⟩ | ⟨hh, e⟩
    · refine br_f (by rw [po_at (f := I) (k := b) (by omega), e]; exact po_10) ⟨po_16 hb16, po_bucket (K.1 b hb16).1 hd ((po_at (by omega)).trans (K.1 b hb16).2.1) rfl ?_⟩
      by_cases w : po_bk (lf b) d = q
      · refine br_t (by rw [w]) ⟨po_60 h60, nm_r (po_uc (by omega)) ⟨po_16 hb16, po_60 h60, nm_r (po_uv (by omega) (by omega)) ⟨po_16 hb16, nm_r (po_uc (by omega)) ⟨po_16 hb16, nm_r (po_uc0 (by omega)) (nm_r (nI_1 s) (nm_r (nI_1 b) (ih (b + 1) (by omega) (s + 1) _ _ _ _ _ (by omega) (po_put K h60 hb16 (HE s (Nat.le_refl s) (by omega)) hh hd (by omega)) ?_ ?_ (by omega))))⟩⟩⟩⟩
        · intro t ht a
          have n := HN t a
          rw [pk_un (by omega)]
          exact HA t ht a
        · intro t ht a
          rw [pk_un (by omega)]
          exact HE t (by omega) a
      · refine br_f (fun z => w ((nI_eq (by have := po_bk15 _ (K.1 b hb16).1 d hd; omega) (by omega)).mp z)) (nm_r (nI_1 b) (ih (b + 1) (by omega) s h S V I T hs K HA HE hs4))
    · exact br_t ((po_at (by omega)).trans e) (nm_r (nI_1 b) (ih (b + 1) (by omega) s h S V I T hs K HA HE hs4))
theorem po_refill {post : SX → Prop} {sh tc : Int32} {S V L I T sv ga g : Nat → Int32} {h lf : Nat → Nat} {l d : Nat} (hl : l < 8) (hd : d < 4) (A : Nat → Prop) (HN : ∀ t, A t → t / 4 ≠ po_bk l d) (K : po_Inv h lf g S V L I T) (HA : ∀ t, t < 60 → A t → S t = -1) (HE : ∀ t, t < 60 → t / 4 = po_bk l d → S t = -1)
    (H : ∀ h S V I T, po_Inv h lf g S V L I T → (∀ t, t < 60 → A t → S t = -1) → post (sh, tc, S, V, L, I, T, sv, ga)) :
    wpX_refillBucket post (sh, tc, S, V, L, I, T, sv, ga) (nI l) (nI d) := by
  have hq := po_bk15 l hl d hd
  unfold wpX_refillBucket
  refine po_bucket hl hd rfl rfl (nm_r (pk_mul (po_bk l d) 4) (nm_r (nI_add (po_bk l d * 4) 4) ⟨16 + 1, po_refL hq hd A HN H 16 0 rfl (po_bk l d * 4) h S V I T (Nat.le_refl _) K HA (fun t a b => HE t (by omega) (by omega)) (by omega)⟩))
theorem po_closeL {post : SX → Prop} {sh tc : Int32} {L sv ga g : Nat → Int32} {lf : Nat → Nat} {l : Nat} (hl : l < 8)
    (H : ∀ h S V I T, po_Inv h lf g S V L I T → post (sh, tc, S, V, L, I, T, sv, ga)) :
    ∀ m, m ≤ 4 → ∀ h S V I T, po_Inv h lf g S V L I T → (∀ s, s < 60 → ∀ e, e < m → s / 4 = po_bk l e → S s = -1) → ∀ x, x = nI m + (-1) → wX_closePath_2 post (nI l) (m + 1) x sh tc S V L I T sv ga := by
  intro m
  induction m with
  | zero =>
    intro _ h S V I T K HE x ex
    subst ex
    exact br_t (by decide) (H h S V I T K)
  | succ m ih =>
    intro hm h S V I T K HE x ex
    rw [pk_m1] at ex
    subst ex
    refine br_f (nI_pos (by omega)) (po_refill hl (by omega) (fun s => ∃ e, e < m ∧ s / 4 = po_bk l e) ?_ K (fun s hs ⟨e, he, q⟩ => HE s hs e (by omega) q) (fun s hs q => HE s hs m (by omega) q) (fun h S V I T K HA => ?_))
    · intro t ⟨e, he, q⟩ z
      have := po_bkinj l hl e (by omega) m (by omega) (q.symm.trans z)
      omega
    · exact fun y ey => ih (by omega) h S V I T K (fun s hs e he q => HA s hs ⟨e, he, q⟩) y ey
theorem po_close {post : SX → Prop} {sh tc : Int32} {S V L I T sv ga g : Nat → Int32} {h lf : Nat → Nat} {l : Nat} (hl : l < 8) (K : po_Inv h lf g S V L I T) (HE : ∀ s, s < 60 → ∀ e, e < 4 → s / 4 = po_bk l e → S s = -1)
    (H : ∀ h S V I T, po_Inv h lf g S V L I T → post (sh, tc, S, V, L, I, T, sv, ga)) :
    wpX_closePath post (sh, tc, S, V, L, I, T, sv, ga) (nI l) :=
  ⟨4 + 1, po_closeL hl H 4 (Nat.le_refl 4) h S V I T K HE 3 (by decide)⟩
def po_G (g S V L I T : Nat → Int32) : Prop := ∃ h lf, po_Inv h lf g S V L I T
theorem po_fetch {post : Int32 → SX → Prop} {sh tc : Int32} {S V L I T sv ga g : Nat → Int32} {b : Nat} (hb : b < 16) (K : po_G g S V L I T)
    (H : ∀ sh S V L I T, po_G g S V L I T → post (g b) (sh, 4, S, V, L, I, T, sv, ga)) :
    wpX_fetch post (sh, tc, S, V, L, I, T, sv, ga) (nI b) := by
  obtain ⟨h, lf, K⟩ := K
  unfold wpX_fetch
  refine po_open hb K (fun l hl sh h lf S V L I T K hh HE => ?_)
  refine ⟨po_16 hb, nm_r (e' := g b) ((po_at (by omega)).trans ?_) (po_close hl K HE (fun h S V I T K => H sh S V L I T ⟨h, lf, K⟩))⟩
  rcases (K.1 b hb).2.2 with ⟨_, _, c⟩ | ⟨c, _⟩
  · exact c
  · omega
theorem po_store {post : SX → Prop} {sh tc : Int32} {S V L I T sv ga g : Nat → Int32} {b : Nat} {x : Int32} (hb : b < 16) (K : po_G g S V L I T)
    (H : ∀ sh S V L I T, po_G (upd g b x) S V L I T → post (sh, 4, S, V, L, I, T, sv, ga)) :
    wpX_store post (sh, tc, S, V, L, I, T, sv, ga) (nI b) x := by
  obtain ⟨h, lf, K⟩ := K
  unfold wpX_store
  refine po_open hb K (fun l hl sh h lf S V L I T K hh HE => ?_)
  exact ⟨po_16 hb, nm_r (po_uc (by omega)) (po_close hl (po_write K hb hh x) HE (fun h S V I T K => H sh S V L I T ⟨h, lf, K⟩))⟩
end
section
theorem po_blk (x : Int32) : (x < 0 ∨ nI 16 ≤ x) ∨ ∃ b, b < 16 ∧ x = nI b := by
  rcases pk_ix x (n := 16) (by omega) with a | a | a
  · exact .inl (.inl a)
  · exact .inl (.inr a)
  · exact .inr a
theorem po_isN {post : Int32 → Prop} {x : Int32} (h : x < 0 ∨ nI 16 ≤ x) (H : post 0) : wpX_isBlock post x := by
  by_cases z : x < 0
  · exact br_t z H
  · rcases h with a | a
    · exact absurd a z
    · exact br_f z (br_t a H)
theorem po_badT {post : Int32 → Prop} {us : Int32} {bl ol sv : Nat → Int32} {x : Int32} (h : x < 0 ∨ nI 16 ≤ x) (H : post 1) : wpY_bad post (us, bl, ol, sv) x := by
  by_cases z : x < 0
  · exact br_t z H
  · rcases h with a | a
    · exact absurd a z
    · exact br_f z (br_f (fun w => absurd (Int32.le_trans a w) (by decide)) H)
theorem po_badF {post : Int32 → Prop} {us : Int32} {bl ol sv : Nat → Int32} {b : Nat} (hb : b < 16) (H : post 0) : wpY_bad post (us, bl, ol, sv) (nI b) := br_f (nI_pos (by omega)) (br_t (nI_le (b := 15) (by omega) (by decide)) H)
theorem po_snp (x : Int32) : (x < 0 ∨ nI 2 ≤ x) ∨ ∃ b, b < 2 ∧ x = nI b := by
  rcases pk_ix x (n := 2) (by omega) with a | a | a
  · exact .inl (.inl a)
  · exact .inl (.inr a)
  · exact .inr a
theorem po_snN {post : Int32 → Prop} {x : Int32} (h : x < 0 ∨ nI 2 ≤ x) (H : post 0) : wpX_isSnapshot post x := by
  by_cases z : x < 0
  · exact br_t z H
  · rcases h with a | a
    · exact absurd a z
    · exact br_f z (br_t a H)
theorem po_snB {post : Int32 → Prop} {b : Nat} (hb : b < 2) (H : post 1) : wpX_isSnapshot post (nI b) := br_f (nI_pos (by omega)) (br_f (nI_ge (b := 2) hb (by decide)) H)
theorem po_bsT {post : Int32 → Prop} {us : Int32} {bl ol sv : Nat → Int32} {x : Int32} (h : x < 0 ∨ nI 2 ≤ x) (H : post 1) : wpY_badShot post (us, bl, ol, sv) x := by
  by_cases z : x < 0
  · exact br_t z H
  · rcases h with a | a
    · exact absurd a z
    · exact br_f z (br_f (fun w => absurd (Int32.le_trans a w) (by decide)) H)
theorem po_bsF {post : Int32 → Prop} {us : Int32} {bl ol sv : Nat → Int32} {b : Nat} (hb : b < 2) (H : post 0) : wpY_badShot post (us, bl, ol, sv) (nI b) := br_f (nI_pos (by omega)) (br_t (nI_le (b := 1) (by omega) (by decide)) H)
theorem po_sto {post : SX → Prop} {sh tc : Int32} {S V L I T sv ga g : Nat → Int32} {b : Nat} {x y z : Int32} (hb : b < 16) (K : po_G g S V L I T) (hy : y = nI b) (hz : z = x)
    (H : ∀ sh S V L I T, po_G (upd g b x) S V L I T → post (sh, 4, S, V, L, I, T, sv, ga)) :
    wpX_store post (sh, tc, S, V, L, I, T, sv, ga) y z := by
  subst hy hz
  exact po_store hb K H
theorem po_gathL {post : SX → Prop} {sv g : Nat → Int32} (H : ∀ sh S V L I T ga, po_G g S V L I T → (∀ j, j < 16 → ga j = g j) → post (sh, 4, S, V, L, I, T, sv, ga)) :
    ∀ d i, i + d = 16 → ∀ sh tc S V L I T ga, po_G g S V L I T → (∀ j, j < i → ga j = g j) → (d = 0 → tc = 4) → wX_gather_2 post (d + 1) (nI i) sh tc S V L I T sv ga := by
  intro d
  induction d with
  | zero =>
    intro i hi sh tc S V L I T ga K hg ht
    have ei : i = 16 := by omega
    subst ei
    have et := ht rfl
    subst et
    exact br_t po_le16 (H sh S V L I T ga K hg)
  | succ d ih =>
    intro i hi sh tc S V L I T ga K hg ht
    have h16 : i < 16 := by omega
    refine br_f (po_ge16 h16) (po_fetch h16 K fun sh S V L I T K => ?_)
    refine ⟨po_16 h16, nm_r (po_uc (by omega)) (nm_r (nI_1 i) (ih (i + 1) (by omega) sh 4 S V L I T _ K ?_ (fun _ => rfl)))⟩
    intro j hj
    by_cases z : j = i
    · rw [z]; exact pk_us
    · rw [pk_un z]; exact hg j (by omega)
theorem po_gather {post : SX → Prop} {sh tc : Int32} {S V L I T sv ga g : Nat → Int32} (K : po_G g S V L I T)
    (H : ∀ sh S V L I T ga, po_G g S V L I T → (∀ j, j < 16 → ga j = g j) → post (sh, 4, S, V, L, I, T, sv, ga)) :
    wpX_gather post (sh, tc, S, V, L, I, T, sv, ga) :=
  ⟨16 + 1, po_gathL H 16 0 rfl sh tc S V L I T ga K (fun j hj => by omega) (fun z => by omega)⟩
theorem po_cn_t {p : Nat → Bool} {n : Nat} (h : p n = true) : po_cn p (n + 1) = po_cn p n + 1 := by rw [po_cn, if_pos h]
theorem po_cn_f {p : Nat → Bool} {n : Nat} (h : ¬ p n = true) : po_cn p (n + 1) = po_cn p n := by rw [po_cn, if_neg h, Nat.add_zero]
theorem po_cn_ext {p q : Nat → Bool} : ∀ n, (∀ j, j < n → p j = q j) → po_cn p n = po_cn q n := by
  intro n
  induction n with
  | zero => intro _; rfl
  | succ n ih =>
    intro h
    rw [po_cn, po_cn, ih (fun j hj => h j (by omega)), h n (by omega)]
theorem po_ls_t {g : Nat → Int32} {x : Int32} {j : Nat} (h : ¬ x ≤ g j) : po_ls g x j = true := decide_eq_true (Int32.not_le.mp h)
theorem po_ls_f {g : Nat → Int32} {x : Int32} {j : Nat} (h : x ≤ g j) : ¬ po_ls g x j = true := fun z => Int32.not_le.mpr (of_decide_eq_true z) h
theorem po_sm_t {g : Nat → Int32} {x : Int32} {j : Nat} (h : g j = x) : po_sm g x j = true := decide_eq_true h
theorem po_sm_f {g : Nat → Int32} {x : Int32} {j : Nat} (h : ¬ g j = x) : ¬ po_sm g x j = true := fun z => h (of_decide_eq_true z)
theorem po_clessL {post : Int32 → Prop} {sh tc : Int32} {S V L I T sv ga : Nat → Int32} {x : Int32} (H : post (nI (po_cn (po_ls ga x) 16))) :
    ∀ d i, i + d = 16 → wX_countLess_4 post x sh tc S V L I T sv ga (d + 1) (nI (po_cn (po_ls ga x) i)) (nI i) := by
  intro d
  induction d with
  | zero =>
    intro i hi
    have ei : i = 16 := by omega
    subst ei
    exact br_t po_le16 H
  | succ d ih =>
    intro i hi
    have h16 : i < 16 := by omega
    have q := ih (i + 1) (by omega)
    refine br_f (po_ge16 h16) ⟨po_16 h16, ?_⟩
    by_cases c : x ≤ ga i
    · rw [po_cn_f (po_ls_f c)] at q
      exact br_t (by rw [po_at (f := ga) (k := i) (by omega)]; exact c) (nm_r (nI_1 i) q)
    · rw [po_cn_t (po_ls_t c)] at q
      exact br_f (by rw [po_at (f := ga) (k := i) (by omega)]; exact c) (nm_r (nI_1 _) (nm_r (nI_1 i) q))
theorem po_cless {post : Int32 → Prop} {sh tc : Int32} {S V L I T sv ga : Nat → Int32} {x : Int32} (H : post (nI (po_cn (po_ls ga x) 16))) :
    wpX_countLess post (sh, tc, S, V, L, I, T, sv, ga) x := ⟨16 + 1, po_clessL H 16 0 rfl⟩
theorem po_ylessL {post : Int32 → Prop} {us : Int32} {bl ol sv : Nat → Int32} {x : Int32} (H : post (nI (po_cn (po_ls bl x) 16))) :
    ∀ d i, i + d = 16 → wY_less_4 post x us bl ol sv (d + 1) (nI (po_cn (po_ls bl x) i)) (nI i) := by
  intro d
  induction d with
  | zero =>
    intro i hi
    have ei : i = 16 := by omega
    subst ei
    exact br_t po_le16 H
  | succ d ih =>
    intro i hi
    have h16 : i < 16 := by omega
    have q := ih (i + 1) (by omega)
    refine br_f (po_ge16 h16) ⟨po_16 h16, ?_⟩
    by_cases c : x ≤ bl i
    · rw [po_cn_f (po_ls_f c)] at q
      exact br_t (by rw [po_at (f := bl) (k := i) (by omega)]; exact c) (nm_r (nI_1 i) q)
    · rw [po_cn_t (po_ls_t c)] at q
      exact br_f (by rw [po_at (f := bl) (k := i) (by omega)]; exact c) (nm_r (nI_1 _) (nm_r (nI_1 i) q))
theorem po_yless {post : Int32 → Prop} {us : Int32} {bl ol sv : Nat → Int32} {x y : Int32} (e : y = x) (H : post (nI (po_cn (po_ls bl x) 16))) :
    wpY_less post (us, bl, ol, sv) y := by
  subst e
  exact ⟨16 + 1, po_ylessL H 16 0 rfl⟩
theorem po_ysameL {post : Int32 → Prop} {us : Int32} {bl ol sv : Nat → Int32} {x : Int32} (H : post (nI (po_cn (po_sm bl x) 16))) :
    ∀ d i, i + d = 16 → wY_same_4 post x us bl ol sv (d + 1) (nI (po_cn (po_sm bl x) i)) (nI i) := by
  intro d
  induction d with
  | zero =>
    intro i hi
    have ei : i = 16 := by omega
    subst ei
    exact br_t po_le16 H
  | succ d ih =>
    intro i hi
    have h16 : i < 16 := by omega
    have q := ih (i + 1) (by omega)
    refine br_f (po_ge16 h16) ⟨po_16 h16, ?_⟩
    by_cases c : bl i = x
    · rw [po_cn_t (po_sm_t c)] at q
      exact br_t (by rw [po_at (f := bl) (k := i) (by omega)]; exact c) (nm_r (nI_1 _) (nm_r (nI_1 i) q))
    · rw [po_cn_f (po_sm_f c)] at q
      exact br_f (by rw [po_at (f := bl) (k := i) (by omega)]; exact c) (nm_r (nI_1 i) q)
theorem po_ysame {post : Int32 → Prop} {us : Int32} {bl ol sv : Nat → Int32} {x y : Int32} (e : y = x) (H : post (nI (po_cn (po_sm bl x) 16))) :
    wpY_same post (us, bl, ol, sv) y := by
  subst e
  exact ⟨16 + 1, po_ysameL H 16 0 rfl⟩
theorem po_rankL {post : Int32 → SX → Prop} {sh tc : Int32} {S V L I T sv ga : Nat → Int32} {k : Nat} (hk : k < 16)
    (H : ∀ x i0, i0 < 16 → x = ga i0 → po_cn (po_ls ga x) 16 ≤ k → (∀ j, j < 16 → po_cn (po_ls ga (ga j)) 16 ≤ k → ga j ≤ x) → post x (sh, tc, S, V, L, I, T, sv, ga)) :
    ∀ d i, i + d = 16 → ∀ x f, ((f = 0 ∧ ∀ j, j < i → ¬ po_cn (po_ls ga (ga j)) 16 ≤ k) ∨ (f = 1 ∧ ∃ i0, i0 < 16 ∧ x = ga i0 ∧ po_cn (po_ls ga x) 16 ≤ k ∧ ∀ j, j < i → po_cn (po_ls ga (ga j)) 16 ≤ k → ga j ≤ x)) → wX_ranked_28 post (nI k) sh tc S V L I T sv ga (d + 1) x f (nI i) := by
  intro d
  induction d with
  | zero =>
    intro i hi x f hI
    have ei : i = 16 := by omega
    subst ei
    refine br_t po_le16 ?_
    rcases hI with ⟨_, hn⟩ | ⟨_, i0, h0, e0, hx, hm⟩
    · obtain ⟨w, hw, z⟩ := po_least ga
      exact absurd (by omega) (hn w hw)
    · exact H x i0 h0 e0 hx hm
  | succ d ih =>
    intro i hi x f hI
    have h16 : i < 16 := by omega
    refine br_f (po_ge16 h16) ⟨po_16 h16, nm_r (e' := ga i) (po_at (by omega)) (po_cless ?_)⟩
    have h17 := po_cn_le (po_ls ga (ga i)) 16
    by_cases c : po_cn (po_ls ga (ga i)) 16 ≤ k
    · refine br_f (nI_nlt c (by omega)) ?_
      rcases hI with ⟨rfl, hn⟩ | ⟨rfl, i0, h0, e0, hx, hm⟩
      · refine br_t rfl (nm_r (nI_1 i) (ih (i + 1) (by omega) (ga i) 1 (.inr ⟨rfl, i, h16, rfl, c, fun j hj cj => ?_⟩)))
        by_cases z : j = i
        · rw [z]; exact Int32.le_refl _
        · exact absurd cj (hn j (by omega))
      · refine br_f po_10 ?_
        by_cases w : ga i ≤ x
        · refine br_t w (nm_r (nI_1 i) (ih (i + 1) (by omega) x 1 (.inr ⟨rfl, i0, h0, e0, hx, fun j hj cj => ?_⟩)))
          by_cases z : j = i
          · rw [z]; exact w
          · exact hm j (by omega) cj
        · refine br_f w (nm_r (nI_1 i) (ih (i + 1) (by omega) (ga i) 1 (.inr ⟨rfl, i, h16, rfl, c, fun j hj cj => ?_⟩)))
          by_cases z : j = i
          · rw [z]; exact Int32.le_refl _
          · exact Int32.le_trans (hm j (by omega) cj) (Int32.le_of_lt (Int32.not_le.mp w))
    · refine br_t (nI_lt (by omega) (by omega)) (nm_r (nI_1 i) (ih (i + 1) (by omega) x f ?_))
      rcases hI with ⟨e, hn⟩ | ⟨e, i0, h0, e0, hx, hm⟩
      · refine .inl ⟨e, fun j hj => ?_⟩
        by_cases z : j = i
        · rw [z]; exact c
        · exact hn j (by omega)
      · refine .inr ⟨e, i0, h0, e0, hx, fun j hj cj => ?_⟩
        by_cases z : j = i
        · rw [z] at cj; exact absurd cj c
        · exact hm j (by omega) cj
theorem po_yrankL {post : Int32 → SY → Prop} {us : Int32} {bl ol sv : Nat → Int32} {k : Nat} {x : Int32} (hk : k < 16) (hc : ∀ i, i < 16 → ((po_cn (po_ls bl (bl i)) 16 ≤ k ∧ k < po_cn (po_ls bl (bl i)) 16 + po_cn (po_sm bl (bl i)) 16) ↔ bl i = x)) (i0 : Nat) (h0 : i0 < 16) (e0 : x = bl i0) (H : post x (us, bl, ol, sv)) :
    ∀ d i, i + d = 16 → i ≤ i0 → wY_ranked_17 post (nI k) us bl ol sv (d + 1) (nI i) := by
  intro d
  induction d with
  | zero => intro i hi hj; omega
  | succ d ih =>
    intro i hi hj
    have h16 : i < 16 := by omega
    refine br_f (po_ge16 h16) ⟨po_16 h16, po_yless (x := bl i) (po_at (by omega)) ⟨po_16 h16, po_ysame (x := bl i) (po_at (by omega)) ?_⟩⟩
    have h17 := po_cn_le (po_ls bl (bl i)) 16
    have h18 := po_cn_le (po_sm bl (bl i)) 16
    by_cases w : bl i = x
    · obtain ⟨a, b⟩ := (hc i h16).mpr w
      refine br_f (nI_nlt a (by omega)) (br_f ?_ ⟨po_16 h16, ?_⟩)
      · rw [nI_add]; exact nI_ge b (by omega)
      · rw [po_at (f := bl) (k := i) (by omega), w]; exact H
    · have n : ¬ (po_cn (po_ls bl (bl i)) 16 ≤ k ∧ k < po_cn (po_ls bl (bl i)) 16 + po_cn (po_sm bl (bl i)) 16) := fun z => w ((hc i h16).mp z)
      have ne : i ≠ i0 := fun z => w (by rw [z]; exact e0.symm)
      have q := ih (i + 1) (by omega) (by omega)
      by_cases a : po_cn (po_ls bl (bl i)) 16 ≤ k
      · refine br_f (nI_nlt a (by omega)) (br_t ?_ (nm_r (nI_1 i) q))
        rw [nI_add]; exact nI_le (by omega) (by omega)
      · exact br_t (nI_lt (by omega) (by omega)) (nm_r (nI_1 i) q)
end
section
def po_it (f : Nat → (Nat → Int32) → Nat → Int32) : Nat → Nat → (Nat → Int32) → Nat → Int32
  | 0, _, g => g
  | d + 1, i, g => po_it f d (i + 1) (f i g)
theorem po_fillL {post : Int32 → SX → Prop} {b c : Nat} {v st : Int32} {sv ga : Nat → Int32} (hb : b + c ≤ 16) :
    ∀ d i, i + d = c → ∀ g sh tc S V L I T, po_G g S V L I T → (d = 0 → tc = 4) → (∀ sh S V L I T, po_G (po_it (fun i g => upd g (b + i) (v + nI i * st)) d i g) S V L I T → post 0 (sh, 4, S, V, L, I, T, sv, ga)) → wX_fill_31 post (nI b) (nI c) v st (d + 1) (nI i) sh tc S V L I T sv ga := by
  intro d
  induction d with
  | zero =>
    intro i hi g sh tc S V L I T K ht H
    have et := ht rfl
    subst et
    exact br_t (nI_le (by omega) (by omega)) (H sh S V L I T K)
  | succ d ih =>
    intro i hi g sh tc S V L I T K ht H
    exact br_f (nI_ge (by omega) (by omega)) (po_sto (b := b + i) (by omega) K (nI_add b i) rfl fun sh S V L I T K => nm_r (nI_1 i) (ih (i + 1) (by omega) _ sh 4 S V L I T K (fun _ => rfl) H))
theorem po_yfillL {post : Int32 → SY → Prop} {us : Int32} {b c : Nat} {v st : Int32} {ol sv : Nat → Int32} (hb : b + c ≤ 16) :
    ∀ d i, i + d = c → ∀ g, post 0 (us, po_it (fun i g => upd g (b + i) (v + nI i * st)) d i g, ol, sv) → wY_fill_36 post (nI b) (nI c) v st us (d + 1) (nI i) g ol sv := by
  intro d
  induction d with
  | zero =>
    intro i hi g H
    exact br_t (nI_le (by omega) (by omega)) H
  | succ d ih =>
    intro i hi g H
    refine br_f (nI_ge (by omega) (by omega)) ⟨pk_in (b + i) 16 (by omega) (nI_add b i), nm_r (e' := upd g (b + i) (v + nI i * st)) ?_ (nm_r (nI_1 i) (ih (i + 1) (by omega) _ H))⟩
    rw [pk_cl (b + i) (nI_add b i)]
theorem po_rotL {post : Int32 → SX → Prop} {x : Int32} {sv ga g0 : Nat → Int32} (hg : ∀ j, j < 16 → ga j = g0 j) :
    ∀ d i, i + d = 16 → ∀ g sh tc S V L I T, po_G g S V L I T → (d = 0 → tc = 4) → (∀ sh S V L I T, po_G (po_it (fun i g => upd g i (g0 ((nI i + x) &&& 15).toNatClampNeg)) d i g) S V L I T → post 0 (sh, 4, S, V, L, I, T, sv, ga)) → wX_rotate_6 post x (d + 1) (nI i) sh tc S V L I T sv ga := by
  intro d
  induction d with
  | zero =>
    intro i hi g sh tc S V L I T K ht H
    have ei : i = 16 := by omega
    subst ei
    have et := ht rfl
    subst et
    exact br_t po_le16 (H sh S V L I T K)
  | succ d ih =>
    intro i hi g sh tc S V L I T K ht H
    have h16 : i < 16 := by omega
    obtain ⟨j, hj, e⟩ := pk_andE (nI i + x) (m := 15) 4 (by decide)
    have hj : j < 16 := hj
    refine br_f (po_ge16 h16) (nm_r e ⟨po_16 hj, po_sto (x := g0 ((nI i + x) &&& 15).toNatClampNeg) h16 K rfl ?_ fun sh S V L I T K => nm_r (nI_1 i) (ih (i + 1) (by omega) _ sh 4 S V L I T K (fun _ => rfl) H)⟩)
    rw [e, po_at (f := ga) (k := j) (by omega), po_at (f := g0) (k := j) (by omega)]
    exact hg j hj
theorem po_yrotL {post : Int32 → SY → Prop} {us x : Int32} {ol sv g0 : Nat → Int32} (hg : ∀ j, j < 16 → ol j = g0 j) :
    ∀ d i, i + d = 16 → ∀ g, post 0 (us, po_it (fun i g => upd g i (g0 ((nI i + x) &&& 15).toNatClampNeg)) d i g, ol, sv) → wY_rotate_33 post x us (d + 1) (nI i) g ol sv := by
  intro d
  induction d with
  | zero =>
    intro i hi g H
    have ei : i = 16 := by omega
    subst ei
    exact br_t po_le16 H
  | succ d ih =>
    intro i hi g H
    have h16 : i < 16 := by omega
    obtain ⟨j, hj, e⟩ := pk_andE (nI i + x) (m := 15) 4 (by decide)
    have hj : j < 16 := hj
    refine br_f (po_ge16 h16) ⟨pk_in j 16 hj e, po_16 h16, nm_r (e' := upd g i (g0 ((nI i + x) &&& 15).toNatClampNeg)) ?_ (nm_r (nI_1 i) (ih (i + 1) (by omega) _ H))⟩
    rw [e, po_uc (by omega), po_at (f := ol) (k := j) (by omega), po_at (f := g0) (k := j) (by omega), hg j hj]
theorem po_yoldL {post : Int32 → SY → Prop} {us x : Int32} {bl sv : Nat → Int32} (H : ∀ ol, (∀ j, j < 16 → ol j = bl j) → ∃ n, wY_rotate_33 post x us n 0 bl ol sv) :
    ∀ d i, i + d = 16 → ∀ ol, (∀ j, j < i → ol j = bl j) → wY_rotate_7 post x us (d + 1) (nI i) bl ol sv := by
  intro d
  induction d with
  | zero =>
    intro i hi ol hg
    have ei : i = 16 := by omega
    subst ei
    exact br_t po_le16 (H ol hg)
  | succ d ih =>
    intro i hi ol hg
    have h16 : i < 16 := by omega
    refine br_f (po_ge16 h16) ⟨po_16 h16, po_16 h16, nm_r (po_uv (by omega) (by omega)) (nm_r (nI_1 i) (ih (i + 1) (by omega) _ ?_))⟩
    intro j hj
    by_cases z : j = i
    · rw [z]; exact pk_us
    · rw [pk_un z]; exact hg j (by omega)
def po_su (g : Nat → Int32) : Nat → Nat → Int32 → Int32
  | 0, _, a => a
  | d + 1, i, a => po_su g d (i + 1) (a + g i)
theorem po_sumL {post : Int32 → SX → Prop} {g sv ga : Nat → Int32} :
    ∀ d i, i + d = 16 → ∀ a sh tc S V L I T, po_G g S V L I T → (d = 0 → tc = 4) → (∀ sh S V L I T, po_G g S V L I T → post (po_su g d i a) (sh, 4, S, V, L, I, T, sv, ga)) → wX_sum_4 post (d + 1) a (nI i) sh tc S V L I T sv ga := by
  intro d
  induction d with
  | zero =>
    intro i hi a sh tc S V L I T K ht H
    have ei : i = 16 := by omega
    subst ei
    have et := ht rfl
    subst et
    exact br_t po_le16 (H sh S V L I T K)
  | succ d ih =>
    intro i hi a sh tc S V L I T K ht H
    have h16 : i < 16 := by omega
    exact br_f (po_ge16 h16) (po_fetch h16 K fun sh S V L I T K => nm_e (nm_r (nI_1 i) (ih (i + 1) (by omega) (a + g i) sh 4 S V L I T K (fun _ => rfl) H)))
theorem po_ysumL {post : Int32 → SY → Prop} {us : Int32} {bl ol sv : Nat → Int32} :
    ∀ d i, i + d = 16 → ∀ a, post (po_su bl d i a) (us, bl, ol, sv) → wY_sum_9 post us bl ol sv (d + 1) a (nI i) := by
  intro d
  induction d with
  | zero =>
    intro i hi a H
    have ei : i = 16 := by omega
    subst ei
    exact br_t po_le16 H
  | succ d ih =>
    intro i hi a H
    have h16 : i < 16 := by omega
    refine br_f (po_ge16 h16) ⟨po_16 h16, nm_r (e' := a + bl i) ?_ (nm_r (nI_1 i) (ih (i + 1) (by omega) (a + bl i) H))⟩
    rw [po_at (f := bl) (k := i) (by omega)]
def po_fi (g : Nat → Int32) (x : Int32) : Nat → Nat → Int32
  | 0, _ => -2
  | d + 1, i => if g i = x then nI i else po_fi g x d (i + 1)
theorem po_findL {post : Int32 → SX → Prop} {x : Int32} {g sv ga : Nat → Int32} :
    ∀ d i, i + d = 16 → ∀ sh tc S V L I T, po_G g S V L I T → (d = 0 → tc = 4) → (∀ sh S V L I T, po_G g S V L I T → post (po_fi g x d i) (sh, 4, S, V, L, I, T, sv, ga)) → wX_find_11 post x (d + 1) (nI i) sh tc S V L I T sv ga := by
  intro d
  induction d with
  | zero =>
    intro i hi sh tc S V L I T K ht H
    have ei : i = 16 := by omega
    subst ei
    have et := ht rfl
    subst et
    exact br_t po_le16 (H sh S V L I T K)
  | succ d ih =>
    intro i hi sh tc S V L I T K ht H
    have h16 : i < 16 := by omega
    refine br_f (po_ge16 h16) (po_fetch h16 K fun sh S V L I T K => ?_)
    by_cases c : g i = x
    · have q := H sh S V L I T K
      rw [po_fi, if_pos c] at q
      exact br_t c q
    · refine br_f c (nm_r (nI_1 i) (ih (i + 1) (by omega) sh 4 S V L I T K (fun _ => rfl) ?_))
      intro sh S V L I T K
      have q := H sh S V L I T K
      rw [po_fi, if_neg c] at q
      exact q
theorem po_yfindL {post : Int32 → SY → Prop} {us x : Int32} {bl ol sv : Nat → Int32} :
    ∀ d i, i + d = 16 → post (po_fi bl x d i) (us, bl, ol, sv) → wY_find_17 post x us bl ol sv (d + 1) (nI i) := by
  intro d
  induction d with
  | zero =>
    intro i hi H
    have ei : i = 16 := by omega
    subst ei
    exact br_t po_le16 H
  | succ d ih =>
    intro i hi H
    have h16 : i < 16 := by omega
    refine br_f (po_ge16 h16) ⟨po_16 h16, ?_⟩
    by_cases c : bl i = x
    · rw [po_fi, if_pos c] at H
      exact br_t ((po_at (by omega)).trans c) H
    · rw [po_fi, if_neg c] at H
      exact br_f (by rw [po_at (f := bl) (k := i) (by omega)]; exact c) (nm_r (nI_1 i) (ih (i + 1) (by omega) H))
theorem po_ix (q i : Nat) : nI q * 16 + nI i = nI (q * 16 + i) := by
  rw [show nI q * 16 = nI (q * 16) from pk_mul q 16, nI_add]
theorem po_iy (q i : Nat) : 16 * nI q + nI i = nI (q * 16 + i) := by
  rw [show 16 * nI q = nI (16 * q) from pk_mul 16 q, nI_add, Nat.mul_comm]
theorem po_saveL {post : Int32 → SX → Prop} {q : Nat} (hq : q < 2) {g ga : Nat → Int32} :
    ∀ d i, i + d = 16 → ∀ s sh tc S V L I T, po_G g S V L I T → (d = 0 → tc = 4) → (∀ sh S V L I T, po_G g S V L I T → post 0 (sh, 4, S, V, L, I, T, po_it (fun i s => upd s (q * 16 + i) (g i)) d i s, ga)) → wX_save_11 post (nI q) (d + 1) (nI i) sh tc S V L I T s ga := by
  intro d
  induction d with
  | zero =>
    intro i hi s sh tc S V L I T K ht H
    have ei : i = 16 := by omega
    subst ei
    have et := ht rfl
    subst et
    exact br_t po_le16 (H sh S V L I T K)
  | succ d ih =>
    intro i hi s sh tc S V L I T K ht H
    have h16 : i < 16 := by omega
    refine br_f (po_ge16 h16) (po_fetch h16 K fun sh S V L I T K => ?_)
    refine ⟨pk_in (q * 16 + i) 32 (by omega) (po_ix q i), nm_r (e' := upd s (q * 16 + i) (g i)) ?_ (nm_r (nI_1 i) (ih (i + 1) (by omega) _ sh 4 S V L I T K (fun _ => rfl) H))⟩
    rw [pk_cl (q * 16 + i) (po_ix q i)]
theorem po_ysaveL {post : Int32 → SY → Prop} {us : Int32} {q : Nat} (hq : q < 2) {bl ol : Nat → Int32} :
    ∀ d i, i + d = 16 → ∀ s, post 0 (us, bl, ol, po_it (fun i s => upd s (q * 16 + i) (bl i)) d i s) → wY_save_17 post (nI q) us (d + 1) (nI i) bl ol s := by
  intro d
  induction d with
  | zero =>
    intro i hi s H
    have ei : i = 16 := by omega
    subst ei
    exact br_t po_le16 H
  | succ d ih =>
    intro i hi s H
    have h16 : i < 16 := by omega
    refine br_f (po_ge16 h16) ⟨po_16 h16, pk_in (q * 16 + i) 32 (by omega) (po_iy q i), nm_r (e' := upd s (q * 16 + i) (bl i)) ?_ (nm_r (nI_1 i) (ih (i + 1) (by omega) _ H))⟩
    rw [pk_cl (q * 16 + i) (po_iy q i), po_at (f := bl) (k := i) (by omega)]
def po_df (g s : Nat → Int32) (q : Nat) : Nat → Bool := fun j => decide (¬ g j = s (q * 16 + j))
theorem po_df_t {g s : Nat → Int32} {q j : Nat} (h : ¬ g j = s (q * 16 + j)) : po_df g s q j = true := decide_eq_true h
theorem po_df_f {g s : Nat → Int32} {q j : Nat} (h : g j = s (q * 16 + j)) : ¬ po_df g s q j = true := fun z => of_decide_eq_true z h
theorem po_unL {post : Int32 → SX → Prop} {q : Nat} (hq : q < 2) {g sv ga : Nat → Int32} (H : ∀ sh S V L I T, po_G g S V L I T → post (nI (po_cn (po_df g sv q) 16)) (sh, 4, S, V, L, I, T, sv, ga)) :
    ∀ d i, i + d = 16 → ∀ sh tc S V L I T, po_G g S V L I T → (d = 0 → tc = 4) → wX_countUnlike_4 post (nI q) (d + 1) (nI (po_cn (po_df g sv q) i)) (nI i) sh tc S V L I T sv ga := by
  intro d
  induction d with
  | zero =>
    intro i hi sh tc S V L I T K ht
    have ei : i = 16 := by omega
    subst ei
    have et := ht rfl
    subst et
    exact br_t po_le16 (H sh S V L I T K)
  | succ d ih =>
    intro i hi sh tc S V L I T K ht
    have h16 : i < 16 := by omega
    have q1 := fun sh S V L I T K => ih (i + 1) (by omega) sh 4 S V L I T K (fun _ => rfl)
    refine br_f (po_ge16 h16) (po_fetch h16 K fun sh S V L I T K => ?_)
    refine ⟨pk_in (q * 16 + i) 32 (by omega) (po_ix q i), ?_⟩
    have q2 := q1 sh S V L I T K
    by_cases c : g i = sv (q * 16 + i)
    · rw [po_cn_f (po_df_f c)] at q2
      exact br_t (by rw [pk_cl (q * 16 + i) (po_ix q i)]; exact c) (nm_r (nI_1 i) q2)
    · rw [po_cn_t (po_df_t c)] at q2
      exact br_f (by rw [pk_cl (q * 16 + i) (po_ix q i)]; exact c) (nm_r (nI_1 _) (nm_r (nI_1 i) q2))
theorem po_un {post : Int32 → SX → Prop} {q : Nat} (hq : q < 2) {sh tc : Int32} {S V L I T g sv ga : Nat → Int32} (K : po_G g S V L I T) (H : ∀ sh S V L I T, po_G g S V L I T → post (nI (po_cn (po_df g sv q) 16)) (sh, 4, S, V, L, I, T, sv, ga)) :
    wpX_countUnlike post (sh, tc, S, V, L, I, T, sv, ga) (nI q) := ⟨16 + 1, po_unL hq H 16 0 rfl sh tc S V L I T K (fun z => by omega)⟩
theorem po_ydiffL {post : Int32 → SY → Prop} {us : Int32} {q : Nat} (hq : q < 2) {bl ol sv : Nat → Int32} (H : post (nI (po_cn (po_df bl sv q) 16)) (us, bl, ol, sv)) :
    ∀ d i, i + d = 16 → wY_differing_19 post (nI q) us bl ol sv (d + 1) (nI (po_cn (po_df bl sv q) i)) (nI i) := by
  intro d
  induction d with
  | zero =>
    intro i hi
    have ei : i = 16 := by omega
    subst ei
    exact br_t po_le16 H
  | succ d ih =>
    intro i hi
    have h16 : i < 16 := by omega
    have q2 := ih (i + 1) (by omega)
    refine br_f (po_ge16 h16) ⟨po_16 h16, pk_in (q * 16 + i) 32 (by omega) (po_iy q i), ?_⟩
    by_cases c : bl i = sv (q * 16 + i)
    · rw [po_cn_f (po_df_f c)] at q2
      exact br_t (by rw [pk_cl (q * 16 + i) (po_iy q i), po_at (f := bl) (k := i) (by omega)]; exact c) (nm_r (nI_1 i) q2)
    · rw [po_cn_t (po_df_t c)] at q2
      exact br_f (by rw [pk_cl (q * 16 + i) (po_iy q i), po_at (f := bl) (k := i) (by omega)]; exact c) (nm_r (nI_1 _) (nm_r (nI_1 i) q2))
theorem po_ydiff {post : Int32 → SY → Prop} {us : Int32} {q : Nat} (hq : q < 2) {bl ol sv : Nat → Int32} (H : post (nI (po_cn (po_df bl sv q) 16)) (1, bl, ol, sv)) :
    wpY_differing post (us, bl, ol, sv) (nI q) := by
  unfold wpY_differing
  exact po_bsF hq (br_t rfl ⟨16 + 1, po_ydiffL hq H 16 0 rfl⟩)
theorem po_loadL {post : Int32 → SX → Prop} {q : Nat} (hq : q < 2) {r : Int32} {sv ga : Nat → Int32} :
    ∀ d i, i + d = 16 → ∀ g sh tc S V L I T, po_G g S V L I T → (d = 0 → tc = 4) → (∀ sh S V L I T, po_G (po_it (fun i g => upd g i (sv (q * 16 + i))) d i g) S V L I T → post r (sh, 4, S, V, L, I, T, sv, ga)) → wX_load_17 post (nI q) r (d + 1) (nI i) sh tc S V L I T sv ga := by
  intro d
  induction d with
  | zero =>
    intro i hi g sh tc S V L I T K ht H
    have ei : i = 16 := by omega
    subst ei
    have et := ht rfl
    subst et
    exact br_t po_le16 (H sh S V L I T K)
  | succ d ih =>
    intro i hi g sh tc S V L I T K ht H
    have h16 : i < 16 := by omega
    refine br_f (po_ge16 h16) ⟨pk_in (q * 16 + i) 32 (by omega) (po_ix q i), po_sto (x := sv (q * 16 + i)) h16 K rfl ?_ fun sh S V L I T K => nm_r (nI_1 i) (ih (i + 1) (by omega) _ sh 4 S V L I T K (fun _ => rfl) H)⟩
    rw [pk_cl (q * 16 + i) (po_ix q i)]
theorem po_yloadL {post : Int32 → SY → Prop} {us : Int32} {q : Nat} (hq : q < 2) {r : Int32} {ol sv : Nat → Int32} :
    ∀ d i, i + d = 16 → ∀ g, post r (us, po_it (fun i g => upd g i (sv (q * 16 + i))) d i g, ol, sv) → wY_load_18 post (nI q) r us (d + 1) (nI i) g ol sv := by
  intro d
  induction d with
  | zero =>
    intro i hi g H
    have ei : i = 16 := by omega
    subst ei
    exact br_t po_le16 H
  | succ d ih =>
    intro i hi g H
    have h16 : i < 16 := by omega
    refine br_f (po_ge16 h16) ⟨pk_in (q * 16 + i) 32 (by omega) (po_iy q i), po_16 h16, nm_r (e' := upd g i (sv (q * 16 + i))) ?_ (nm_r (nI_1 i) (ih (i + 1) (by omega) _ H))⟩
    rw [pk_cl (q * 16 + i) (po_iy q i), po_uc (by omega)]
theorem po_onL {post : Int32 → Prop} {l d : Nat} (hl : l < 8) (hd : d < 4) (H : post 1) : ∀ m j, j + m = d → wX_isOnPath_2 post (nI (po_bk l d)) (nI l) (m + 1) (nI j) := by
  intro m
  induction m with
  | zero =>
    intro j hj
    have ej : j = d := by omega
    subst ej
    exact br_f (nI_nlt (a := 3) (by omega) (by omega)) (po_bucket hl hd rfl rfl (br_t rfl H))
  | succ m ih =>
    intro j hj
    refine br_f (nI_nlt (a := 3) (by omega) (by omega)) (po_bucket (d := j) hl (by omega) rfl rfl ?_)
    exact br_c (fun _ => H) (fun _ => nm_r (nI_1 j) (ih (j + 1) (by omega)))
theorem po_on {post : Int32 → Prop} {l d : Nat} {x y : Int32} (hl : l < 8) (hd : d < 4) (hx : x = nI (po_bk l d)) (hy : y = nI l) (H : post 1) : wpX_isOnPath post x y := by
  subst hx hy
  exact ⟨d + 1, po_onL hl hd H d 0 (by omega)⟩
def po_cp (h : Nat → Nat) (b s : Nat) : Nat := if h b = 60 then 1 else if h b < s then 1 else 0
theorem po_keptL {post : Int32 → Prop} {sh tc : Int32} {S V L I T sv ga g : Nat → Int32} {h lf : Nat → Nat} (K : po_Inv h lf g S V L I T) {b : Nat} (hb : b < 16) (H : post 1) :
    ∀ d s, s + d = 60 → wX_isKeptWell_17 post (nI b) sh tc S V L I T sv ga (d + 1) (nI (po_cp h b s)) (nI s) := by
  intro d
  induction d with
  | zero =>
    intro s hs
    have es : s = 60 := by omega
    subst es
    have e1 : po_cp h b 60 = 1 := by
      unfold po_cp
      rcases po_st K hb with ⟨z, _⟩ | ⟨z, _⟩
      · rw [if_pos z]
      · rw [if_neg (by omega), if_pos z]
    rw [e1]
    exact br_t (nI_le (a := 60) (by omega) (by omega)) (br_t rfl H)
  | succ d ih =>
    intro s hs
    have h60 : s < 60 := by omega
    have q := ih (s + 1) (by omega)
    refine br_f (nI_ge (b := 60) h60 (by omega)) ⟨po_60 h60, ?_⟩
    by_cases c : S s = nI b
    · have hh := po_hm K h60 hb c
      have e0 : po_cp h b s = 0 := by
        unfold po_cp
        rw [if_neg (by omega), if_neg (by omega)]
      have e1 : po_cp h b (s + 1) = 0 + 1 := by
        unfold po_cp
        rw [if_neg (by omega), if_pos (by omega)]
      rw [e1] at q
      rw [e0]
      obtain ⟨l1, l2, r⟩ := K.1 b hb
      rcases r with ⟨r, _⟩ | ⟨_, _, _, _, d', hd', r⟩
      · omega
      · refine br_t ((po_at (by omega)).trans c) (nm_r (nI_1 0) ⟨by decide, po_16 hb, po_on (d := d') l1 hd' ?_ ((po_at (by omega)).trans l2) (br_f po_10 (nm_r (nI_1 s) q))⟩)
        rw [← r, hh]
        exact pk_div (d := 4) (by omega) (by omega) (by omega)
    · have e1 : po_cp h b (s + 1) = po_cp h b s := by
        unfold po_cp
        by_cases z : h b = 60
        · rw [if_pos z, if_pos z]
        · have n : h b ≠ s := by
            intro y
            obtain ⟨l1, l2, r⟩ := K.1 b hb
            rcases r with ⟨r, _⟩ | ⟨_, _, r, _⟩
            · omega
            · rw [y] at r; exact c r
          rw [if_neg z, if_neg z]
          by_cases w : h b < s
          · rw [if_pos w, if_pos (by omega)]
          · rw [if_neg w, if_neg (by omega)]
      rw [e1] at q
      exact br_f (by rw [po_at (f := S) (k := s) (by omega)]; exact c) (nm_r (nI_1 s) q)
theorem po_kept {post : Int32 → Prop} {sh tc : Int32} {S V L I T sv ga g : Nat → Int32} (K : po_G g S V L I T) {b : Nat} (hb : b < 16) (H : post 1) :
    wpX_isKeptWell post (sh, tc, S, V, L, I, T, sv, ga) (nI b) := by
  obtain ⟨h, lf, K⟩ := K
  have q := po_keptL (sh := sh) (tc := tc) (sv := sv) (ga := ga) K hb H 60 0 rfl
  rcases po_st K hb with ⟨z, e⟩ | ⟨z, e⟩
  · have e1 : po_cp h b 0 = 1 := by
      unfold po_cp
      rw [if_pos z]
    rw [e1] at q
    exact ⟨po_16 hb, br_f (by rw [po_at (f := I) (k := b) (by omega), e]; exact po_10) ⟨_, q⟩⟩
  · have e1 : po_cp h b 0 = 0 := by
      unfold po_cp
      rw [if_neg (by omega), if_neg (by omega)]
    rw [e1] at q
    exact ⟨po_16 hb, br_t ((po_at (by omega)).trans e) ⟨_, q⟩⟩
theorem po_audL {post : Int32 → Prop} {sh tc : Int32} {S V L I T sv ga g : Nat → Int32} (K : po_G g S V L I T) (H : post 0) :
    ∀ d i, i + d = 16 → wX_audit_4 post sh tc S V L I T sv ga (d + 1) 0 (nI i) := by
  intro d
  induction d with
  | zero =>
    intro i hi
    have ei : i = 16 := by omega
    subst ei
    exact br_t po_le16 H
  | succ d ih =>
    intro i hi
    have h16 : i < 16 := by omega
    exact br_f (po_ge16 h16) (po_kept K h16 (br_f po_10 (nm_r (nI_1 i) (ih (i + 1) (by omega)))))
theorem po_iniB {post : SX → Prop} {tc : Int32} {S V sv ga : Nat → Int32} (hS : ∀ s, s < 60 → S s = -1) (H : ∀ sh L I, po_G (fun _ => 0) S V L I (fun _ => 0) → post (sh, tc, S, V, L, I, (fun _ => 0), sv, ga)) :
    ∀ d i, i + d = 16 → ∀ sh L I, (∀ b, b < i → I b = 1 ∧ ∃ l, l < 8 ∧ L b = nI l) → wX_init_88 post (d + 1) (nI i) sh tc S V L I (fun _ => 0) sv ga := by
  intro d
  induction d with
  | zero =>
    intro i hi sh L I hI
    have ei : i = 16 := by omega
    subst ei
    refine br_t po_le16 (H sh L I ⟨fun _ => 60, fun b => (L b).toNatClampNeg, fun b hb => ?_, fun s hs => .inl (hS s hs)⟩)
    obtain ⟨e, l, hl, q⟩ := hI b hb
    have z : (L b).toNatClampNeg = l := by rw [q, nI_clamp (by omega)]
    refine ⟨?_, ?_, .inl ⟨rfl, e, rfl⟩⟩
    · show (L b).toNatClampNeg < 8
      rw [z]; exact hl
    · show L b = nI (L b).toNatClampNeg
      rw [z]; exact q
  | succ d ih =>
    intro i hi sh L I hI
    have h16 : i < 16 := by omega
    refine br_f (po_ge16 h16) (po_draw fun sh l hl => ?_)
    refine ⟨po_16 h16, nm_r (po_uc (by omega)) ⟨po_16 h16, nm_r (po_uc1 (by omega)) (nm_r (nI_1 i) (ih (i + 1) (by omega) sh _ _ ?_))⟩⟩
    intro b hb
    by_cases z : b = i
    · rw [z, pk_us, pk_us]; exact ⟨rfl, l, hl, rfl⟩
    · rw [pk_un z, pk_un z]; exact hI b (by omega)
theorem po_iniS {post : SX → Prop} {sh tc : Int32} {V sv ga : Nat → Int32} (H : ∀ sh S L I, po_G (fun _ => 0) S V L I (fun _ => 0) → post (sh, tc, S, V, L, I, (fun _ => 0), sv, ga)) :
    ∀ d i, i + d = 60 → ∀ S, (∀ s, s < i → S s = -1) → wX_init_67 post sh tc (d + 1) (nI i) S V (fun _ => 0) (fun _ => 0) (fun _ => 0) sv ga := by
  intro d
  induction d with
  | zero =>
    intro i hi S hS
    have ei : i = 60 := by omega
    subst ei
    exact br_t (nI_le (a := 60) (by omega) (by omega)) ⟨16 + 1, po_iniB hS (fun sh L I => H sh S L I) 16 0 rfl sh _ _ (fun b hb => by omega)⟩
  | succ d ih =>
    intro i hi S hS
    have h60 : i < 60 := by omega
    refine br_f (nI_ge (b := 60) h60 (by omega)) ⟨po_60 h60, nm_r (po_uc (by omega)) (nm_r (nI_1 i) (ih (i + 1) (by omega) _ ?_))⟩
    intro s hs
    by_cases z : s = i
    · rw [z]; exact pk_us
    · exact po_keep (hS s (by omega))
end
section
def i_Rel (k : Nat) (u : SX) (v : SY) : Prop := ∃ (sh tc us : Int32) (S V L I T sv ga bl ol : Nat → Int32), u = (sh, tc, S, V, L, I, T, sv, ga) ∧ v = (us, bl, ol, sv) ∧ po_G bl S V L I T ∧ ((us = 0 ∧ tc = 0) ∨ (us = 1 ∧ tc = 4))
theorem i_up {k : Nat} {u : SX} {v : SY} (h : i_Rel k u v) : i_Rel (k + 5) u v := h
theorem po_rel {k : Nat} {sh : Int32} {S V L I T sv ga bl ol : Nat → Int32} (K : po_G bl S V L I T) : i_Rel k (sh, 4, S, V, L, I, T, sv, ga) (1, bl, ol, sv) := ⟨sh, 4, 1, S, V, L, I, T, sv, ga, bl, ol, rfl, rfl, K, .inr ⟨rfl, rfl⟩⟩
theorem po_rel0 {k : Nat} {sh tc us : Int32} {S V L I T sv ga bl ol : Nat → Int32} (K : po_G bl S V L I T) (hu : (us = 0 ∧ tc = 0) ∨ (us = 1 ∧ tc = 4)) : i_Rel k (sh, tc, S, V, L, I, T, sv, ga) (us, bl, ol, sv) := ⟨sh, tc, us, S, V, L, I, T, sv, ga, bl, ol, rfl, rfl, K, hu⟩
theorem i_vc0 (k0 : Int32) : wpX_init (fun u => wpY_init (fun v => i_Rel 1 u v) k0) k0 := ⟨60 + 1, po_iniS (fun _ _ _ _ K => po_rel0 (k := 1) K (.inl ⟨rfl, rfl⟩)) 60 0 rfl _ (fun s hs => by omega)⟩
theorem i_vc_stir {k : Nat} {u : SX} {v : SY} (I : i_Rel k u v) (hk : k + 5 ≤ 2561) (v1 : Int32) : wpX_stir (fun u' => wpY_stir (fun v' => i_Rel (k + 5) u' v') v v1) u v1 := by
  obtain ⟨sh, tc, us, S, V, L, I, T, sv, ga, bl, ol, rfl, rfl, K, hu⟩ := I
  exact po_rel0 (k := k + 5) K hu
theorem i_vc_read {k : Nat} {u : SX} {v : SY} (I : i_Rel k u v) (hk : k + 5 ≤ 2561) (v1 : Int32) : wpX_read (fun r u' => wpY_read (fun r' v' => r' = r ∧ i_Rel (k + 5) u' v') v v1) u v1 := by
  obtain ⟨sh, tc, us, S, V, L, I, T, sv, ga, bl, ol, rfl, rfl, K, hu⟩ := I
  unfold wpX_read wpY_read
  dsimp only
  rcases po_blk v1 with hx | ⟨b, hb, rfl⟩
  · exact po_isN hx (br_t rfl (po_badT hx (br_f po_10 ⟨rfl, po_rel0 K hu⟩)))
  · exact po_isB hb (br_f po_10 (po_fetch hb K fun sh S V L I T K => po_badF hb (br_t rfl ⟨po_16 hb, po_at (by omega), po_rel K⟩)))
theorem i_vc_write {k : Nat} {u : SX} {v : SY} (I : i_Rel k u v) (hk : k + 5 ≤ 2561) (v1 : Int32) (v2 : Int32) : wpX_write (fun r u' => wpY_write (fun r' v' => r' = r ∧ i_Rel (k + 5) u' v') v v1 v2) u v1 v2 := by
  obtain ⟨sh, tc, us, S, V, L, I, T, sv, ga, bl, ol, rfl, rfl, K, hu⟩ := I
  unfold wpX_write wpY_write
  dsimp only
  rcases po_blk v1 with hx | ⟨b, hb, rfl⟩
  · exact po_isN hx (br_t rfl (po_badT hx (br_f po_10 ⟨rfl, po_rel0 K hu⟩)))
  · exact po_isB hb (br_f po_10 (po_store hb K fun sh S V L I T K => po_badF hb (br_t rfl ⟨po_16 hb, nm_r (po_uc (by omega)) ⟨rfl, po_rel K⟩⟩)))
theorem i_vc_add {k : Nat} {u : SX} {v : SY} (I : i_Rel k u v) (hk : k + 5 ≤ 2561) (v1 : Int32) (v2 : Int32) : wpX_add (fun r u' => wpY_add (fun r' v' => r' = r ∧ i_Rel (k + 5) u' v') v v1 v2) u v1 v2 := by
  obtain ⟨sh, tc, us, S, V, L, I, T, sv, ga, bl, ol, rfl, rfl, K, hu⟩ := I
  unfold wpX_add wpY_add
  dsimp only
  rcases po_blk v1 with hx | ⟨b, hb, rfl⟩
  · exact po_isN hx (br_t rfl (po_badT hx (br_f po_10 ⟨rfl, po_rel0 K hu⟩)))
  · refine po_isB hb (br_f po_10 (po_fetch hb K fun sh S V L I T K => nm_e (po_store hb K fun sh S V L I T K => po_badF hb (br_t rfl ⟨po_16 hb, po_16 hb, nm_r (e' := upd bl b (bl b + v2)) ?_ ⟨po_16 hb, ?_, po_rel K⟩⟩))))
    · rw [po_uc (by omega), po_at (f := bl) (k := b) (by omega)]
    · exact (po_at (by omega)).trans pk_us
theorem i_vc_exchange {k : Nat} {u : SX} {v : SY} (I : i_Rel k u v) (hk : k + 5 ≤ 2561) (v1 : Int32) (v2 : Int32) : wpX_exchange (fun r u' => wpY_exchange (fun r' v' => r' = r ∧ i_Rel (k + 5) u' v') v v1 v2) u v1 v2 := by
  obtain ⟨sh, tc, us, S, V, L, I, T, sv, ga, bl, ol, rfl, rfl, K, hu⟩ := I
  unfold wpX_exchange wpY_exchange
  dsimp only
  rcases po_blk v1 with hx | ⟨b, hb, rfl⟩
  · exact po_isN hx (br_t rfl (po_badT hx (br_f po_10 ⟨rfl, po_rel0 K hu⟩)))
  · rcases po_blk v2 with hx | ⟨c, hc, rfl⟩
    · exact po_isB hb (br_f po_10 (po_isN hx (br_t rfl (po_badF hb (br_t rfl (po_badT hx (br_f po_10 ⟨rfl, po_rel0 K hu⟩)))))))
    · refine po_isB hb (br_f po_10 (po_isB hc (br_f po_10 (po_fetch hb K fun sh S V L I T K => po_fetch hc K fun sh S V L I T K => po_store hb K fun sh S V L I T K => po_store hc K fun sh S V L I T K => ?_))))
      refine po_badF hb (br_t rfl (po_badF hc (br_t rfl ⟨po_16 hb, nm_r (e' := bl b) (po_at (by omega)) ⟨po_16 hc, po_16 hb, nm_r (po_uv (by omega) (by omega)) ⟨po_16 hc, nm_r (po_uc (by omega)) ⟨rfl, po_rel K⟩⟩⟩⟩)))
theorem i_vc_copy {k : Nat} {u : SX} {v : SY} (I : i_Rel k u v) (hk : k + 5 ≤ 2561) (v1 : Int32) (v2 : Int32) : wpX_copy (fun r u' => wpY_copy (fun r' v' => r' = r ∧ i_Rel (k + 5) u' v') v v1 v2) u v1 v2 := by
  obtain ⟨sh, tc, us, S, V, L, I, T, sv, ga, bl, ol, rfl, rfl, K, hu⟩ := I
  unfold wpX_copy wpY_copy
  dsimp only
  rcases po_blk v1 with hx | ⟨b, hb, rfl⟩
  · exact po_isN hx (br_t rfl (po_badT hx (br_f po_10 ⟨rfl, po_rel0 K hu⟩)))
  · rcases po_blk v2 with hx | ⟨c, hc, rfl⟩
    · exact po_isB hb (br_f po_10 (po_isN hx (br_t rfl (po_badF hb (br_t rfl (po_badT hx (br_f po_10 ⟨rfl, po_rel0 K hu⟩)))))))
    · refine po_isB hb (br_f po_10 (po_isB hc (br_f po_10 (po_fetch hb K fun sh S V L I T K => po_store hc K fun sh S V L I T K => ?_))))
      exact po_badF hb (br_t rfl (po_badF hc (br_t rfl ⟨po_16 hb, po_16 hc, nm_r (po_uv (by omega) (by omega)) ⟨rfl, po_rel K⟩⟩)))
theorem i_vc_fill {k : Nat} {u : SX} {v : SY} (I : i_Rel k u v) (hk : k + 5 ≤ 2561) (v1 : Int32) (v2 : Int32) (v3 : Int32) (v4 : Int32) : wpX_fill (fun r u' => wpY_fill (fun r' v' => r' = r ∧ i_Rel (k + 5) u' v') v v1 v2 v3 v4) u v1 v2 v3 v4 := by
  obtain ⟨sh, tc, us, S, V, L, I, T, sv, ga, bl, ol, rfl, rfl, K, hu⟩ := I
  by_cases h1 : v2 < 1
  · exact br_t h1 (br_t h1 ⟨rfl, po_rel0 K hu⟩)
  by_cases h2 : v2 ≤ 16
  · by_cases h3 : v1 < 0
    · exact br_f h1 (br_t h2 (br_t h3 (br_f h1 (br_t h2 (br_t h3 ⟨rfl, po_rel0 K hu⟩)))))
    by_cases h4 : v1 ≤ 16 - v2
    · have n2 : ¬ v2 < 0 := fun z => h1 (Int32.lt_trans z (by decide))
      obtain ⟨c, hc, rfl⟩ := nI_of n2
      obtain ⟨b, hb, rfl⟩ := nI_of h3
      have c1 : ¬ c < 1 := fun z => h1 (nI_lt (b := 1) z (by decide))
      have c2 : c ≤ 16 := (nI_leI (b := 16) hc (by decide)).mp h2
      have e4 : (16 : Int32) - nI c = nI (16 - c) := pk_sub (a := 16) c2
      have c3 : b ≤ 16 - c := (nI_leI hb (by omega)).mp (e4 ▸ h4)
      refine br_f h1 (br_t h2 (br_f h3 (br_t h4 ⟨c + 1, po_fillL (c := c) (by omega) c 0 (by omega) bl sh tc S V L I T K (fun z => by omega) fun sh S V L I T K => ?_⟩)))
      exact br_f h1 (br_t h2 (br_f h3 (br_t h4 ⟨c + 1, po_yfillL (c := c) (by omega) c 0 (by omega) bl ⟨rfl, po_rel K⟩⟩)))
    · exact br_f h1 (br_t h2 (br_f h3 (br_f h4 (br_f h1 (br_t h2 (br_f h3 (br_f h4 ⟨rfl, po_rel0 K hu⟩)))))))
  · exact br_f h1 (br_f h2 (br_f h1 (br_f h2 ⟨rfl, po_rel0 K hu⟩)))
theorem i_vc_rotate {k : Nat} {u : SX} {v : SY} (I : i_Rel k u v) (hk : k + 5 ≤ 2561) (v1 : Int32) : wpX_rotate (fun r u' => wpY_rotate (fun r' v' => r' = r ∧ i_Rel (k + 5) u' v') v v1) u v1 := by
  obtain ⟨sh, tc, us, S, V, L, I, T, sv, ga, bl, ol, rfl, rfl, K, hu⟩ := I
  unfold wpX_rotate wpY_rotate
  dsimp only
  refine po_gather K fun sh S V L I T ga K hg => ⟨16 + 1, po_rotL hg 16 0 rfl bl sh 4 S V L I T K (fun z => by omega) fun sh S V L I T K => ?_⟩
  exact ⟨16 + 1, po_yoldL (fun ol ho => ⟨16 + 1, po_yrotL ho 16 0 rfl bl ⟨rfl, po_rel K⟩⟩) 16 0 rfl ol (fun j hj => by omega)⟩
theorem i_vc_sum {k : Nat} {u : SX} {v : SY} (I : i_Rel k u v) (hk : k + 5 ≤ 2561) : wpX_sum (fun r u' => wpY_sum (fun r' v' => r' = r ∧ i_Rel (k + 5) u' v') v) u := by
  obtain ⟨sh, tc, us, S, V, L, I, T, sv, ga, bl, ol, rfl, rfl, K, hu⟩ := I
  exact ⟨16 + 1, po_sumL 16 0 rfl 0 sh tc S V L I T K (fun z => by omega) fun sh S V L I T K => ⟨16 + 1, po_ysumL 16 0 rfl 0 ⟨rfl, po_rel K⟩⟩⟩
theorem i_vc_find {k : Nat} {u : SX} {v : SY} (I : i_Rel k u v) (hk : k + 5 ≤ 2561) (v1 : Int32) (v2 : Int32) : wpX_find (fun r u' => wpY_find (fun r' v' => r' = r ∧ i_Rel (k + 5) u' v') v v1 v2) u v1 v2 := by
  obtain ⟨sh, tc, us, S, V, L, I, T, sv, ga, bl, ol, rfl, rfl, K, hu⟩ := I
  unfold wpX_find wpY_find
  dsimp only
  rcases po_blk v2 with hx | ⟨b, hb, rfl⟩
  · exact po_isN hx (br_t rfl (po_badT hx (br_f po_10 ⟨rfl, po_rel0 K hu⟩)))
  · refine po_isB hb (br_f po_10 ⟨16 - b + 1, po_findL (16 - b) b (by omega) sh tc S V L I T K (fun z => by omega) fun sh S V L I T K => ?_⟩)
    exact po_badF hb (br_t rfl ⟨16 - b + 1, po_yfindL (16 - b) b (by omega) ⟨rfl, po_rel K⟩⟩)
theorem i_vc_below {k : Nat} {u : SX} {v : SY} (I : i_Rel k u v) (hk : k + 5 ≤ 2561) (v1 : Int32) : wpX_below (fun r u' => wpY_below (fun r' v' => r' = r ∧ i_Rel (k + 5) u' v') v v1) u v1 := by
  obtain ⟨sh, tc, us, S, V, L, I, T, sv, ga, bl, ol, rfl, rfl, K, hu⟩ := I
  unfold wpX_below wpY_below
  dsimp only
  refine po_gather K fun sh S V L I T ga K hg => po_cless (ga := ga) (po_yless rfl ⟨?_, po_rel K⟩)
  exact congrArg nI (po_cn_ext 16 fun j hj => by rw [po_ls, po_ls, hg j hj])
theorem i_vc_ranked {k : Nat} {u : SX} {v : SY} (I : i_Rel k u v) (hk : k + 5 ≤ 2561) (v1 : Int32) : wpX_ranked (fun r u' => wpY_ranked (fun r' v' => r' = r ∧ i_Rel (k + 5) u' v') v v1) u v1 := by
  obtain ⟨sh, tc, us, S, V, L, I, T, sv, ga, bl, ol, rfl, rfl, K, hu⟩ := I
  have e16 : nI 16 = 16 := rfl
  unfold wpX_ranked wpY_ranked
  dsimp only
  rcases po_blk v1 with hx | ⟨k, hk, rfl⟩
  · have q := po_badT (post := fun r => (r = 0 → ∃ n17 : Nat, wY_ranked_17 (fun r' v' => r' = 0 ∧ i_Rel (k + 5) (sh, tc, S, V, L, I, T, sv, ga) v') v1 1 bl ol sv n17 0) ∧ (¬ r = 0 → (0 : Int32) = 0 ∧ i_Rel (k + 5) (sh, tc, S, V, L, I, T, sv, ga) (us, bl, ol, sv))) (us := us) (bl := bl) (ol := ol) (sv := sv) hx (br_f po_10 ⟨rfl, po_rel0 K hu⟩)
    by_cases z : v1 < 0
    · exact br_t z q
    · rcases hx with a | a
      · exact absurd a z
      · exact br_f z (br_f (fun w => absurd (Int32.lt_of_le_of_lt a w) (by decide)) q)
  · refine br_f (nI_pos (by omega)) (br_t (nI_lt (b := 16) hk (by decide)) (po_gather K fun sh S V L I T ga K hg => nm_e ⟨16 + 1, po_rankL (ga := ga) hk (fun x i0 h0 e0 hx hm => ?_) 16 0 rfl _ 0 (.inl ⟨rfl, fun j hj => by omega⟩)⟩))
    have hl : ∀ x, po_cn (po_ls ga x) 16 = po_cn (po_ls bl x) 16 := fun x => po_cn_ext 16 fun j hj => by rw [po_ls, po_ls, hg j hj]
    rw [hg i0 h0] at e0
    rw [hl] at hx
    have hm2 : ∀ j, j < 16 → po_cn (po_ls bl (bl j)) 16 ≤ k → bl j ≤ x := by
      intro j hj c
      have := hm j hj
      rw [hg j hj, hl] at this
      exact this c
    exact po_badF hk (br_t rfl ⟨16 + 1, po_yrankL hk (fun i hi => po_rank bl k hk x i0 h0 e0 hx hm2 i hi) i0 h0 e0 ⟨rfl, po_rel K⟩ 16 0 rfl (by omega)⟩)
theorem i_vc_save {k : Nat} {u : SX} {v : SY} (I : i_Rel k u v) (hk : k + 5 ≤ 2561) (v1 : Int32) : wpX_save (fun r u' => wpY_save (fun r' v' => r' = r ∧ i_Rel (k + 5) u' v') v v1) u v1 := by
  obtain ⟨sh, tc, us, S, V, L, I, T, sv, ga, bl, ol, rfl, rfl, K, hu⟩ := I
  unfold wpX_save wpY_save
  dsimp only
  rcases po_snp v1 with hx | ⟨q, hq, rfl⟩
  · exact po_snN hx (br_t rfl (po_bsT hx (br_f po_10 ⟨rfl, po_rel0 K hu⟩)))
  · refine po_snB hq (br_f po_10 ⟨16 + 1, po_saveL hq 16 0 rfl sv sh tc S V L I T K (fun z => by omega) fun sh S V L I T K => ?_⟩)
    exact po_bsF hq (br_t rfl ⟨16 + 1, po_ysaveL hq 16 0 rfl sv ⟨rfl, po_rel K⟩⟩)
theorem i_vc_load {k : Nat} {u : SX} {v : SY} (I : i_Rel k u v) (hk : k + 5 ≤ 2561) (v1 : Int32) : wpX_load (fun r u' => wpY_load (fun r' v' => r' = r ∧ i_Rel (k + 5) u' v') v v1) u v1 := by
  obtain ⟨sh, tc, us, S, V, L, I, T, sv, ga, bl, ol, rfl, rfl, K, hu⟩ := I
  unfold wpX_load wpY_load
  dsimp only
  rcases po_snp v1 with hx | ⟨q, hq, rfl⟩
  · exact po_snN hx (br_t rfl (po_bsT hx (br_f po_10 ⟨rfl, po_rel0 K hu⟩)))
  · refine po_snB hq (br_f po_10 (po_un hq K fun sh S V L I T K => ⟨16 + 1, po_loadL hq 16 0 rfl bl sh 4 S V L I T K (fun z => by omega) fun sh S V L I T K => ?_⟩))
    exact po_bsF hq (br_t rfl (po_ydiff hq ⟨16 + 1, po_yloadL hq 16 0 rfl bl ⟨rfl, po_rel K⟩⟩))
theorem i_vc_differing {k : Nat} {u : SX} {v : SY} (I : i_Rel k u v) (hk : k + 5 ≤ 2561) (v1 : Int32) : wpX_differing (fun r u' => wpY_differing (fun r' v' => r' = r ∧ i_Rel (k + 5) u' v') v v1) u v1 := by
  obtain ⟨sh, tc, us, S, V, L, I, T, sv, ga, bl, ol, rfl, rfl, K, hu⟩ := I
  unfold wpX_differing
  dsimp only
  rcases po_snp v1 with hx | ⟨q, hq, rfl⟩
  · refine po_snN hx (br_t rfl ?_)
    unfold wpY_differing
    exact po_bsT hx (br_f po_10 ⟨rfl, po_rel0 K hu⟩)
  · exact po_snB hq (br_f po_10 (po_un hq K fun sh S V L I T K => po_ydiff hq ⟨rfl, po_rel K⟩))
theorem i_vc_audit {k : Nat} {u : SX} {v : SY} (I : i_Rel k u v) (hk : k + 5 ≤ 2561) : wpX_audit (fun r => wpY_audit (fun r' => r' = r ∧ i_Rel (k + 5) u v) v) u := by
  obtain ⟨sh, tc, us, S, V, L, I, T, sv, ga, bl, ol, rfl, rfl, K, hu⟩ := I
  exact ⟨16 + 1, po_audL K ⟨rfl, po_rel0 K hu⟩ 16 0 rfl⟩
theorem i_vc_touched {k : Nat} {u : SX} {v : SY} (I : i_Rel k u v) (hk : k + 5 ≤ 2561) : wpX_touched (fun r => wpY_touched (fun r' => r' = r ∧ i_Rel (k + 5) u v) v) u := by
  obtain ⟨sh, tc, us, S, V, L, I, T, sv, ga, bl, ol, rfl, rfl, K, hu⟩ := I
  rcases hu with ⟨rfl, rfl⟩ | ⟨rfl, rfl⟩
  · exact br_t rfl ⟨rfl, po_rel0 K (.inl ⟨rfl, rfl⟩)⟩
  · exact br_f po_10 ⟨rfl, po_rel0 K (.inr ⟨rfl, rfl⟩)⟩
end
