theorem pk_us {f : Nat → Int32} {k : Nat} {x : Int32} : upd f k x k = x := if_pos rfl
theorem pk_un {f : Nat → Int32} {k j : Nat} {x : Int32} (h : j ≠ k) : upd f k x j = f j := if_neg h
theorem pk_sub {a b : Nat} (h : b ≤ a) : nI a - nI b = nI (a - b) := by
  obtain ⟨c, rfl⟩ : ∃ c, a = c + b := ⟨a - b, by omega⟩
  rw [← nI_add, Int32.add_sub_cancel, Nat.add_sub_cancel]
theorem pk_m1 (n : Nat) : nI (n + 1) + (-1) = nI n := by
  rw [← nI_1, Int32.add_assoc, show (1 : Int32) + (-1) = 0 from rfl, Int32.add_zero]
theorem pk_mul (a b : Nat) : nI a * nI b = nI (a * b) := (Int32.ofNat_mul a b).symm
theorem pk_div {a d : Nat} (ha : a < 2 ^ 31) (h0 : 0 < d) (hd : d < 2 ^ 31) : nI a / nI d = nI (a / d) := by
  apply Int32.toInt_inj.mp
  rw [lg_idiv_nonneg (by rw [nI_toInt ha]; omega) (by rw [nI_toInt hd]; omega), nI_toInt ha, nI_toInt hd, nI_toInt (Nat.lt_of_le_of_lt (Nat.div_le_self a d) ha)]
  first | rfl | exact (Int.natCast_ediv _ _).symm
theorem pk_ix (x : Int32) {n : Nat} (hn : n < 2 ^ 31) : x < 0 ∨ nI n ≤ x ∨ ∃ j : Nat, j < n ∧ x = nI j := by
  by_cases h : x < 0
  · exact Or.inl h
  · obtain ⟨j, hj, rfl⟩ := nI_of h
    by_cases h2 : j < n
    · exact Or.inr (Or.inr ⟨j, h2, rfl⟩)
    · exact Or.inr (Or.inl (nI_le (by omega) hj))
theorem pk_le {x y : Int32} {A B : Prop} (a b : Nat) (f : a ≤ b → A) (g : b < a → B) (hx : x = nI a := by rfl) (hy : y = nI b := by rfl) (ha : a < 2 ^ 31 := by omega) (hb : b < 2 ^ 31 := by omega) : (x ≤ y → A) ∧ (¬ x ≤ y → B) := by
  subst hx hy
  rw [nI_leI ha hb]
  exact ⟨f, fun z => g (by omega)⟩
theorem pk_lt {x y : Int32} {A B : Prop} (a b : Nat) (f : a < b → A) (g : b ≤ a → B) (hx : x = nI a := by rfl) (hy : y = nI b := by rfl) (ha : a < 2 ^ 31 := by omega) (hb : b < 2 ^ 31 := by omega) : (x < y → A) ∧ (¬ x < y → B) := by
  subst hx hy
  rw [nI_ltI ha hb]
  exact ⟨f, fun z => g (by omega)⟩
theorem pk_eq {x y : Int32} {A B : Prop} (a b : Nat) (f : a = b → A) (g : a ≠ b → B) (hx : x = nI a := by rfl) (hy : y = nI b := by rfl) (ha : a < 2 ^ 31 := by omega) (hb : b < 2 ^ 31 := by omega) : (x = y → A) ∧ (¬ x = y → B) := by
  subst hx hy
  rw [nI_eq ha hb]
  exact ⟨f, g⟩
theorem pk_in {x : Int32} (n N : Nat) (h : n < N) (hx : x = nI n := by rfl) (hN : N < 2 ^ 31 := by omega) : vp_in x N := by
  subst hx
  exact vp_in_nI h hN
theorem pk_cl {x : Int32} (n : Nat) (hx : x = nI n := by rfl) (h : n < 2 ^ 31 := by omega) : x.toNatClampNeg = n := by
  subst hx
  exact nI_clamp h
theorem pk_tn {n : Nat} (h : n < 2 ^ 32) : (nI n).toBitVec.toNat = n := Nat.mod_eq_of_lt h
theorem pk_and (x : Int32) {m : Int32} (k : Nat) (hm : m.toBitVec.toNat = 2 ^ k - 1) : x &&& m = nI (x.toBitVec.toNat % 2 ^ k) := by
  apply Int32.toBitVec_inj.mp
  apply BitVec.eq_of_toNat_eq
  rw [Int32.toBitVec_and, BitVec.toNat_and, hm, Nat.and_two_pow_sub_one_eq_mod]
  show _ = (BitVec.ofNat 32 _).toNat
  rw [BitVec.toNat_ofNat]
  exact (Nat.mod_eq_of_lt (Nat.lt_of_le_of_lt (Nat.mod_le _ _) x.toBitVec.isLt)).symm
theorem pk_andE (x : Int32) {m : Int32} (k : Nat) (hm : m.toBitVec.toNat = 2 ^ k - 1) : ∃ j : Nat, j < 2 ^ k ∧ x &&& m = nI j := ⟨_, Nat.mod_lt _ (Nat.two_pow_pos k), pk_and x k hm⟩
theorem pk_andIn (x : Int32) {m : Int32} (k : Nat) (hm : m.toBitVec.toNat = 2 ^ k - 1) (hk : k ≤ 30) : vp_in (x &&& m) (2 ^ k) := by
  obtain ⟨j, hj, e⟩ := pk_andE x k hm
  rw [e]
  exact vp_in_nI hj (Nat.lt_of_le_of_lt (Nat.pow_le_pow_right (by decide) hk) (by decide))
theorem pk_shr (a s : Int32) (k : Nat) (hs : (s.toBitVec.smod 32).toNat = k) : (a >>> s).toInt = a.toInt >>> k := by
  show (a.toBitVec.sshiftRight (s.toBitVec.smod 32).toNat).toInt = _
  rw [hs, BitVec.toInt_sshiftRight]
  rfl
theorem pk_shrN {n : Nat} (h : n < 2 ^ 31) (s : Int32) (k : Nat) (hs : (s.toBitVec.smod 32).toNat = k) : nI n >>> s = nI (n / 2 ^ k) := by
  apply Int32.toInt_inj.mp
  have h2 : n / 2 ^ k ≤ n := Nat.div_le_self _ _
  rw [pk_shr _ _ k hs, nI_toInt h, nI_toInt (by omega), Int.shiftRight_eq_div_pow]
  rfl
theorem pk_ushr (x s : Int32) (k : Nat) (hs : ((s.toUInt32 &&& Int32.toUInt32 31).toBitVec % 32).toNat = k) : (x.toUInt32 >>> (s.toUInt32 &&& Int32.toUInt32 31)).toInt32.toBitVec.toNat = x.toBitVec.toNat / 2 ^ k := by
  have e : (x.toUInt32 >>> (s.toUInt32 &&& Int32.toUInt32 31)).toInt32.toBitVec = x.toBitVec >>> k := by
    rw [← hs]
    exact UInt32.toBitVec_shiftRight _ _
  rw [e, BitVec.toNat_ushiftRight, Nat.shiftRight_eq_div_pow]
theorem pk_loop {σ : Type} (W : Nat → Nat → σ → Prop) (I : Nat → σ → Prop) (e i0 : Nat) (s : σ) (hi : i0 ≤ e) (h0 : I i0 s) (hx : ∀ n s, I e s → W (n + 1) e s)
    (hs : ∀ n i s, i < e → I i s → (∀ s', I (i + 1) s' → W n (i + 1) s') → W (n + 1) i s) : ∃ n, W n i0 s :=
  ⟨e + 1, loop_i W I e hx hs (e + 1) i0 s hi (by omega) h0⟩
theorem pk_loopD {σ : Type} (W : Nat → Nat → σ → Prop) (I : Nat → σ → Prop) (hx : ∀ n s, I 0 s → W (n + 1) 0 s)
    (hs : ∀ n i s, I (i + 1) s → (∀ s', I i s' → W n i s') → W (n + 1) (i + 1) s) : ∀ (e : Nat) (s : σ), I e s → W (e + 1) e s := by
  intro e
  induction e with
  | zero => exact fun s h => hx 0 s h
  | succ e ih => exact fun s h => hs (e + 1) e s h (fun s' h' => ih s' h')
theorem ek_if {c d A B : Prop} (e : c ↔ d) (f : d → A) (g : ¬ d → B) : (c → A) ∧ (¬ c → B) :=
  ⟨fun z => f (e.mp z), fun z => g (fun y => z (e.mpr y))⟩
theorem ek_v {α : Sort _} {P : α → Prop} {a b : α} (e : a = b) (h : P b) : P a := e ▸ h
def po_bk (l d : Nat) : Nat := (8 + l) / 2 ^ (3 - d) - 1
def po_up (f : Nat → Nat) (k x : Nat) : Nat → Nat := fun j => if j = k then x else f j
theorem po_ups {f : Nat → Nat} {k x : Nat} : po_up f k x k = x := if_pos rfl
theorem po_upn {f : Nat → Nat} {k j x : Nat} (h : j ≠ k) : po_up f k x j = f j := if_neg h
theorem po_bk15 : ∀ l, l < 8 → ∀ d, d < 4 → po_bk l d < 15 := by decide
theorem po_bkinj : ∀ l, l < 8 → ∀ d, d < 4 → ∀ e, e < 4 → po_bk l d = po_bk l e → d = e := by decide
theorem po_m1 {b : Nat} (h : b < 16) : ¬ nI b = -1 := by
  intro e
  have q := congrArg Int32.toInt e
  rw [nI_toInt (by omega)] at q
  have z : (-1 : Int32).toInt = -1 := by decide
  omega
theorem po_inj {a b : Nat} (ha : a < 16) (hb : b < 16) (h : nI a = nI b) : a = b := (nI_eq (by omega) (by omega)).mp h
/-- block b has one home: the stash (60), or a slot whose bucket is on its leaf's path; its value lies there -/
def po_Bl (h lf : Nat → Nat) (g S V L I T : Nat → Int32) (b : Nat) : Prop :=
  lf b < 8 ∧ L b = nI (lf b) ∧ ((h b = 60 ∧ I b = 1 ∧ T b = g b) ∨ (h b < 60 ∧ I b = 0 ∧ S (h b) = nI b ∧ V (h b) = g b ∧ ∃ d, d < 4 ∧ h b / 4 = po_bk (lf b) d))
def po_Inv (h lf : Nat → Nat) (g S V L I T : Nat → Int32) : Prop :=
  (∀ b, b < 16 → po_Bl h lf g S V L I T b) ∧ (∀ s, s < 60 → S s = -1 ∨ ∃ b, b < 16 ∧ S s = nI b ∧ h b = s)
theorem po_hm {h lf : Nat → Nat} {g S V L I T : Nat → Int32} (H : po_Inv h lf g S V L I T) {s b : Nat} (hs : s < 60) (hb : b < 16) (e : S s = nI b) : h b = s := by
  rcases H.2 s hs with z | ⟨c, hc, z, q⟩
  · exact absurd (e.symm.trans z) (po_m1 hb)
  · rw [po_inj hb hc (e.symm.trans z)]; exact q
/-- a slot is emptied into the stash -/
theorem po_empty {h lf : Nat → Nat} {g S V L I T : Nat → Int32} (H : po_Inv h lf g S V L I T) {s b : Nat} (hs : s < 60) (hb : b < 16) (e : S s = nI b) : po_Inv (po_up h b 60) lf g (upd S s (-1)) (upd V s 0) L (upd I b 1) (upd T b (V s)) := by
  have hh : h b = s := po_hm H hs hb e
  obtain ⟨l1, l2, c⟩ := H.1 b hb
  have hv : V s = g b := by
    rcases c with ⟨c, _⟩ | ⟨_, _, _, c, _⟩
    · omega
    · rw [← hh]; exact c
  refine ⟨fun j hj => ?_, fun t ht => ?_⟩
  · by_cases q : j = b
    · rw [q]
      exact ⟨l1, l2, .inl ⟨po_ups, pk_us, by rw [pk_us]; exact hv⟩⟩
    · obtain ⟨m1, m2, c'⟩ := H.1 j hj
      refine ⟨m1, m2, ?_⟩
      rcases c' with ⟨c1, c2, c3⟩ | ⟨c1, c2, c3, c4, c5⟩
      · exact .inl ⟨by rw [po_upn q]; exact c1, by rw [pk_un q]; exact c2, by rw [pk_un q]; exact c3⟩
      · have n : h j ≠ s := by
          intro z
          rw [z, e] at c3
          exact q (po_inj hb hj c3).symm
        exact .inr ⟨by rw [po_upn q]; exact c1, by rw [pk_un q]; exact c2, by rw [po_upn q, pk_un n]; exact c3, by rw [po_upn q, pk_un n]; exact c4, by rw [po_upn q]; exact c5⟩
  · by_cases q : t = s
    · rw [q]; exact .inl pk_us
    · rw [pk_un q]
      rcases H.2 t ht with z | ⟨c, hc, z, y⟩
      · exact .inl z
      · have n : c ≠ b := by
          intro w
          rw [w] at y
          exact q (y.symm.trans hh)
        exact .inr ⟨c, hc, z, by rw [po_upn n]; exact y⟩
/-- a block in the stash may get a new leaf -/
theorem po_leaf {h lf : Nat → Nat} {g S V L I T : Nat → Int32} (H : po_Inv h lf g S V L I T) {b l : Nat} (hb : b < 16) (hh : h b = 60) (hl : l < 8) : po_Inv h (po_up lf b l) g S V (upd L b (nI l)) I T := by
  refine ⟨fun j hj => ?_, H.2⟩
  obtain ⟨m1, m2, c⟩ := H.1 j hj
  by_cases q : j = b
  · rw [q] at c ⊢
    refine ⟨by rw [po_ups]; exact hl, by rw [po_ups, pk_us], ?_⟩
    rcases c with c | ⟨c1, _⟩
    · exact .inl c
    · omega
  · refine ⟨by rw [po_upn q]; exact m1, by rw [po_upn q, pk_un q]; exact m2, ?_⟩
    rw [po_upn q]
    exact c
/-- a block in the stash may get a new value -/
theorem po_write {h lf : Nat → Nat} {g S V L I T : Nat → Int32} (H : po_Inv h lf g S V L I T) {b : Nat} (hb : b < 16) (hh : h b = 60) (x : Int32) : po_Inv h lf (upd g b x) S V L I (upd T b x) := by
  refine ⟨fun j hj => ?_, H.2⟩
  obtain ⟨m1, m2, c⟩ := H.1 j hj
  refine ⟨m1, m2, ?_⟩
  by_cases q : j = b
  · rw [q] at c ⊢
    rcases c with ⟨c1, c2, c3⟩ | ⟨c1, _⟩
    · exact .inl ⟨c1, c2, by rw [pk_us, pk_us]⟩
    · omega
  · rw [pk_un q, pk_un q]
    exact c
/-- a block in the stash is put into an empty slot on its path -/
theorem po_put {h lf : Nat → Nat} {g S V L I T : Nat → Int32} (H : po_Inv h lf g S V L I T) {s b d : Nat} (hs : s < 60) (hb : b < 16) (e : S s = -1) (hh : h b = 60) (hd : d < 4) (hp : s / 4 = po_bk (lf b) d) : po_Inv (po_up h b s) lf g (upd S s (nI b)) (upd V s (T b)) L (upd I b 0) (upd T b 0) := by
  obtain ⟨l1, l2, c⟩ := H.1 b hb
  have hv : T b = g b := by
    rcases c with ⟨_, _, c⟩ | ⟨c, _⟩
    · exact c
    · omega
  refine ⟨fun j hj => ?_, fun t ht => ?_⟩
  · by_cases q : j = b
    · rw [q]
      exact ⟨l1, l2, .inr ⟨by rw [po_ups]; exact hs, pk_us, by rw [po_ups, pk_us], by rw [po_ups, pk_us]; exact hv, d, hd, by rw [po_ups]; exact hp⟩⟩
    · obtain ⟨m1, m2, c'⟩ := H.1 j hj
      refine ⟨m1, m2, ?_⟩
      rcases c' with ⟨c1, c2, c3⟩ | ⟨c1, c2, c3, c4, c5⟩
      · exact .inl ⟨by rw [po_upn q]; exact c1, by rw [pk_un q]; exact c2, by rw [pk_un q]; exact c3⟩
      · have n : h j ≠ s := by
          intro z
          rw [z, e] at c3
          exact po_m1 hj c3.symm
        exact .inr ⟨by rw [po_upn q]; exact c1, by rw [pk_un q]; exact c2, by rw [po_upn q, pk_un n]; exact c3, by rw [po_upn q, pk_un n]; exact c4, by rw [po_upn q]; exact c5⟩
  · by_cases q : t = s
    · rw [q]
      exact .inr ⟨b, hb, pk_us, po_ups⟩
    · rw [pk_un q]
      rcases H.2 t ht with z | ⟨c, hc, z, y⟩
      · exact .inl z
      · have n : c ≠ b := by
          intro w
          rw [w, hh] at y
          omega
        exact .inr ⟨c, hc, z, by rw [po_upn n]; exact y⟩
/-- when the path of its leaf is empty, a block lies in the stash -/
theorem po_home {h lf : Nat → Nat} {g S V L I T : Nat → Int32} (H : po_Inv h lf g S V L I T) {b : Nat} (hb : b < 16) (he : ∀ s, s < 60 → ∀ d, d < 4 → s / 4 = po_bk (lf b) d → S s = -1) : h b = 60 ∧ T b = g b := by
  obtain ⟨_, _, c⟩ := H.1 b hb
  rcases c with ⟨c1, _, c3⟩ | ⟨c1, _, c3, _, d, hd, c5⟩
  · exact ⟨c1, c3⟩
  · exact absurd ((he _ c1 d hd c5).symm.trans c3).symm (po_m1 hb)
/-- in the stash: by the flag -/
theorem po_st {h lf : Nat → Nat} {g S V L I T : Nat → Int32} (H : po_Inv h lf g S V L I T) {b : Nat} (hb : b < 16) : (h b = 60 ∧ I b = 1) ∨ (h b < 60 ∧ I b = 0) := by
  obtain ⟨_, _, c⟩ := H.1 b hb
  rcases c with ⟨c1, c2, _⟩ | ⟨c1, c2, _⟩
  · exact .inl ⟨c1, c2⟩
  · exact .inr ⟨c1, c2⟩
