theorem po_blk (x : Int32) : (x < 0 ∨ nI 16 ≤ x) ∨ ∃ b, b < 16 ∧ x = nI b := by
  rcases pk_ix x (n := 16) (by omega) with a | a | a
  · exact .inl (.inl a)
  · exact .inl (.inr a)
  · exact .inr a
theorem po_isN {post : Int32 → Prop} {x : Int32} (h : x < 0 ∨ nI 16 ≤ x) (H : post 0) : wpX_isBlock post x := by
  by_cases z : x < 0
  · exact br_t z H
  · rcases h with a | a
    · exact absurd a z
    · exact br_f z (br_t a H)
theorem po_badT {post : Int32 → Prop} {us : Int32} {bl ol sv : Nat → Int32} {x : Int32} (h : x < 0 ∨ nI 16 ≤ x) (H : post 1) : wpY_bad post (us, bl, ol, sv) x := by
  by_cases z : x < 0
  · exact br_t z H
  · rcases h with a | a
    · exact absurd a z
    · exact br_f z (br_f (fun w => absurd (Int32.le_trans a w) (by decide)) H)
theorem po_badF {post : Int32 → Prop} {us : Int32} {bl ol sv : Nat → Int32} {b : Nat} (hb : b < 16) (H : post 0) : wpY_bad post (us, bl, ol, sv) (nI b) := br_f (nI_pos (by omega)) (br_t (nI_le (b := 15) (by omega) (by decide)) H)
theorem po_snp (x : Int32) : (x < 0 ∨ nI 2 ≤ x) ∨ ∃ b, b < 2 ∧ x = nI b := by
  rcases pk_ix x (n := 2) (by omega) with a | a | a
  · exact .inl (.inl a)
  · exact .inl (.inr a)
  · exact .inr a
theorem po_snN {post : Int32 → Prop} {x : Int32} (h : x < 0 ∨ nI 2 ≤ x) (H : post 0) : wpX_isSnapshot post x := by
  by_cases z : x < 0
  · exact br_t z H
  · rcases h with a | a
    · exact absurd a z
    · exact br_f z (br_t a H)
theorem po_snB {post : Int32 → Prop} {b : Nat} (hb : b < 2) (H : post 1) : wpX_isSnapshot post (nI b) := br_f (nI_pos (by omega)) (br_f (nI_ge (b := 2) hb (by decide)) H)
theorem po_bsT {post : Int32 → Prop} {us : Int32} {bl ol sv : Nat → Int32} {x : Int32} (h : x < 0 ∨ nI 2 ≤ x) (H : post 1) : wpY_badShot post (us, bl, ol, sv) x := by
  by_cases z : x < 0
  · exact br_t z H
  · rcases h with a | a
    · exact absurd a z
    · exact br_f z (br_f (fun w => absurd (Int32.le_trans a w) (by decide)) H)
theorem po_bsF {post : Int32 → Prop} {us : Int32} {bl ol sv : Nat → Int32} {b : Nat} (hb : b < 2) (H : post 0) : wpY_badShot post (us, bl, ol, sv) (nI b) := br_f (nI_pos (by omega)) (br_t (nI_le (b := 1) (by omega) (by decide)) H)
theorem po_sto {post : SX → Prop} {sh tc : Int32} {S V L I T sv ga g : Nat → Int32} {b : Nat} {x y z : Int32} (hb : b < 16) (K : po_G g S V L I T) (hy : y = nI b) (hz : z = x)
    (H : ∀ sh S V L I T, po_G (upd g b x) S V L I T → post (sh, 4, S, V, L, I, T, sv, ga)) :
    wpX_store post (sh, tc, S, V, L, I, T, sv, ga) y z := by
  subst hy hz
  exact po_store hb K H
theorem po_gathL {post : SX → Prop} {sv g : Nat → Int32} (H : ∀ sh S V L I T ga, po_G g S V L I T → (∀ j, j < 16 → ga j = g j) → post (sh, 4, S, V, L, I, T, sv, ga)) :
    ∀ d i, i + d = 16 → ∀ sh tc S V L I T ga, po_G g S V L I T → (∀ j, j < i → ga j = g j) → (d = 0 → tc = 4) → wX_gather_2 post (d + 1) (nI i) sh tc S V L I T sv ga := by
  intro d
  induction d with
  | zero =>
    intro i hi sh tc S V L I T ga K hg ht
    have ei : i = 16 := by omega
    subst ei
    have et := ht rfl
    subst et
    exact br_t po_le16 (H sh S V L I T ga K hg)
  | succ d ih =>
    intro i hi sh tc S V L I T ga K hg ht
    have h16 : i < 16 := by omega
    refine br_f (po_ge16 h16) (po_fetch h16 K fun sh S V L I T K => ?_)
    refine ⟨po_16 h16, nm_r (po_uc (by omega)) (nm_r (nI_1 i) (ih (i + 1) (by omega) sh 4 S V L I T _ K ?_ (fun _ => rfl)))⟩
    intro j hj
    by_cases z : j = i
    · rw [z]; exact pk_us
    · rw [pk_un z]; exact hg j (by omega)
theorem po_gather {post : SX → Prop} {sh tc : Int32} {S V L I T sv ga g : Nat → Int32} (K : po_G g S V L I T)
    (H : ∀ sh S V L I T ga, po_G g S V L I T → (∀ j, j < 16 → ga j = g j) → post (sh, 4, S, V, L, I, T, sv, ga)) :
    wpX_gather post (sh, tc, S, V, L, I, T, sv, ga) :=
  ⟨16 + 1, po_gathL H 16 0 rfl sh tc S V L I T ga K (fun j hj => by omega) (fun z => by omega)⟩
theorem po_cn_t {p : Nat → Bool} {n : Nat} (h : p n = true) : po_cn p (n + 1) = po_cn p n + 1 := by rw [po_cn, if_pos h]
theorem po_cn_f {p : Nat → Bool} {n : Nat} (h : ¬ p n = true) : po_cn p (n + 1) = po_cn p n := by rw [po_cn, if_neg h, Nat.add_zero]
theorem po_cn_ext {p q : Nat → Bool} : ∀ n, (∀ j, j < n → p j = q j) → po_cn p n = po_cn q n := by
  intro n
  induction n with
  | zero => intro _; rfl
  | succ n ih =>
    intro h
    rw [po_cn, po_cn, ih (fun j hj => h j (by omega)), h n (by omega)]
theorem po_ls_t {g : Nat → Int32} {x : Int32} {j : Nat} (h : ¬ x ≤ g j) : po_ls g x j = true := decide_eq_true (Int32.not_le.mp h)
theorem po_ls_f {g : Nat → Int32} {x : Int32} {j : Nat} (h : x ≤ g j) : ¬ po_ls g x j = true := fun z => Int32.not_le.mpr (of_decide_eq_true z) h
theorem po_sm_t {g : Nat → Int32} {x : Int32} {j : Nat} (h : g j = x) : po_sm g x j = true := decide_eq_true h
theorem po_sm_f {g : Nat → Int32} {x : Int32} {j : Nat} (h : ¬ g j = x) : ¬ po_sm g x j = true := fun z => h (of_decide_eq_true z)
theorem po_clessL {post : Int32 → Prop} {sh tc : Int32} {S V L I T sv ga : Nat → Int32} {x : Int32} (H : post (nI (po_cn (po_ls ga x) 16))) :
    ∀ d i, i + d = 16 → wX_countLess_4 post x sh tc S V L I T sv ga (d + 1) (nI (po_cn (po_ls ga x) i)) (nI i) := by
  intro d
  induction d with
  | zero =>
    intro i hi
    have ei : i = 16 := by omega
    subst ei
    exact br_t po_le16 H
  | succ d ih =>
    intro i hi
    have h16 : i < 16 := by omega
    have q := ih (i + 1) (by omega)
    refine br_f (po_ge16 h16) ⟨po_16 h16, ?_⟩
    by_cases c : x ≤ ga i
    · rw [po_cn_f (po_ls_f c)] at q
      exact br_t (by rw [po_at (f := ga) (k := i) (by omega)]; exact c) (nm_r (nI_1 i) q)
    · rw [po_cn_t (po_ls_t c)] at q
      exact br_f (by rw [po_at (f := ga) (k := i) (by omega)]; exact c) (nm_r (nI_1 _) (nm_r (nI_1 i) q))
theorem po_cless {post : Int32 → Prop} {sh tc : Int32} {S V L I T sv ga : Nat → Int32} {x : Int32} (H : post (nI (po_cn (po_ls ga x) 16))) :
    wpX_countLess post (sh, tc, S, V, L, I, T, sv, ga) x := ⟨16 + 1, po_clessL H 16 0 rfl⟩
theorem po_ylessL {post : Int32 → Prop} {us : Int32} {bl ol sv : Nat → Int32} {x : Int32} (H : post (nI (po_cn (po_ls bl x) 16))) :
    ∀ d i, i + d = 16 → wY_less_4 post x us bl ol sv (d + 1) (nI (po_cn (po_ls bl x) i)) (nI i) := by
  intro d
  induction d with
  | zero =>
    intro i hi
    have ei : i = 16 := by omega
    subst ei
    exact br_t po_le16 H
  | succ d ih =>
    intro i hi
    have h16 : i < 16 := by omega
    have q := ih (i + 1) (by omega)
    refine br_f (po_ge16 h16) ⟨po_16 h16, ?_⟩
    by_cases c : x ≤ bl i
    · rw [po_cn_f (po_ls_f c)] at q
      exact br_t (by rw [po_at (f := bl) (k := i) (by omega)]; exact c) (nm_r (nI_1 i) q)
    · rw [po_cn_t (po_ls_t c)] at q
      exact br_f (by rw [po_at (f := bl) (k := i) (by omega)]; exact c) (nm_r (nI_1 _) (nm_r (nI_1 i) q))
theorem po_yless {post : Int32 → Prop} {us : Int32} {bl ol sv : Nat → Int32} {x y : Int32} (e : y = x) (H : post (nI (po_cn (po_ls bl x) 16))) :
    wpY_less post (us, bl, ol, sv) y := by
  subst e
  exact ⟨16 + 1, po_ylessL H 16 0 rfl⟩
theorem po_ysameL {post : Int32 → Prop} {us : Int32} {bl ol sv : Nat → Int32} {x : Int32} (H : post (nI (po_cn (po_sm bl x) 16))) :
    ∀ d i, i + d = 16 → wY_same_4 post x us bl ol sv (d + 1) (nI (po_cn (po_sm bl x) i)) (nI i) := by
  intro d
  induction d with
  | zero =>
    intro i hi
    have ei : i = 16 := by omega
    subst ei
    exact br_t po_le16 H
  | succ d ih =>
    intro i hi
    have h16 : i < 16 := by omega
    have q := ih (i + 1) (by omega)
    refine br_f (po_ge16 h16) ⟨po_16 h16, ?_⟩
    by_cases c : bl i = x
    · rw [po_cn_t (po_sm_t c)] at q
      exact br_t (by rw [po_at (f := bl) (k := i) (by omega)]; exact c) (nm_r (nI_1 _) (nm_r (nI_1 i) q))
    · rw [po_cn_f (po_sm_f c)] at q
      exact br_f (by rw [po_at (f := bl) (k := i) (by omega)]; exact c) (nm_r (nI_1 i) q)
theorem po_ysame {post : Int32 → Prop} {us : Int32} {bl ol sv : Nat → Int32} {x y : Int32} (e : y = x) (H : post (nI (po_cn (po_sm bl x) 16))) :
    wpY_same post (us, bl, ol, sv) y := by
  subst e
  exact ⟨16 + 1, po_ysameL H 16 0 rfl⟩
theorem po_rankL {post : Int32 → SX → Prop} {sh tc : Int32} {S V L I T sv ga : Nat → Int32} {k : Nat} (hk : k < 16)
    (H : ∀ x i0, i0 < 16 → x = ga i0 → po_cn (po_ls ga x) 16 ≤ k → (∀ j, j < 16 → po_cn (po_ls ga (ga j)) 16 ≤ k → ga j ≤ x) → post x (sh, tc, S, V, L, I, T, sv, ga)) :
    ∀ d i, i + d = 16 → ∀ x f, ((f = 0 ∧ ∀ j, j < i → ¬ po_cn (po_ls ga (ga j)) 16 ≤ k) ∨ (f = 1 ∧ ∃ i0, i0 < 16 ∧ x = ga i0 ∧ po_cn (po_ls ga x) 16 ≤ k ∧ ∀ j, j < i → po_cn (po_ls ga (ga j)) 16 ≤ k → ga j ≤ x)) → wX_ranked_28 post (nI k) sh tc S V L I T sv ga (d + 1) x f (nI i) := by
  intro d
  induction d with
  | zero =>
    intro i hi x f hI
    have ei : i = 16 := by omega
    subst ei
    refine br_t po_le16 ?_
    rcases hI with ⟨_, hn⟩ | ⟨_, i0, h0, e0, hx, hm⟩
    · obtain ⟨w, hw, z⟩ := po_least ga
      exact absurd (by omega) (hn w hw)
    · exact H x i0 h0 e0 hx hm
  | succ d ih =>
    intro i hi x f hI
    have h16 : i < 16 := by omega
    refine br_f (po_ge16 h16) ⟨po_16 h16, nm_r (e' := ga i) (po_at (by omega)) (po_cless ?_)⟩
    have h17 := po_cn_le (po_ls ga (ga i)) 16
    by_cases c : po_cn (po_ls ga (ga i)) 16 ≤ k
    · refine br_f (nI_nlt c (by omega)) ?_
      rcases hI with ⟨rfl, hn⟩ | ⟨rfl, i0, h0, e0, hx, hm⟩
      · refine br_t rfl (nm_r (nI_1 i) (ih (i + 1) (by omega) (ga i) 1 (.inr ⟨rfl, i, h16, rfl, c, fun j hj cj => ?_⟩)))
        by_cases z : j = i
        · rw [z]; exact Int32.le_refl _
        · exact absurd cj (hn j (by omega))
      · refine br_f po_10 ?_
        by_cases w : ga i ≤ x
        · refine br_t w (nm_r (nI_1 i) (ih (i + 1) (by omega) x 1 (.inr ⟨rfl, i0, h0, e0, hx, fun j hj cj => ?_⟩)))
          by_cases z : j = i
          · rw [z]; exact w
          · exact hm j (by omega) cj
        · refine br_f w (nm_r (nI_1 i) (ih (i + 1) (by omega) (ga i) 1 (.inr ⟨rfl, i, h16, rfl, c, fun j hj cj => ?_⟩)))
          by_cases z : j = i
          · rw [z]; exact Int32.le_refl _
          · exact Int32.le_trans (hm j (by omega) cj) (Int32.le_of_lt (Int32.not_le.mp w))
    · refine br_t (nI_lt (by omega) (by omega)) (nm_r (nI_1 i) (ih (i + 1) (by omega) x f ?_))
      rcases hI with ⟨e, hn⟩ | ⟨e, i0, h0, e0, hx, hm⟩
      · refine .inl ⟨e, fun j hj => ?_⟩
        by_cases z : j = i
        · rw [z]; exact c
        · exact hn j (by omega)
      · refine .inr ⟨e, i0, h0, e0, hx, fun j hj cj => ?_⟩
        by_cases z : j = i
        · rw [z] at cj; exact absurd cj c
        · exact hm j (by omega) cj
theorem po_yrankL {post : Int32 → SY → Prop} {us : Int32} {bl ol sv : Nat → Int32} {k : Nat} {x : Int32} (hk : k < 16) (hc : ∀ i, i < 16 → ((po_cn (po_ls bl (bl i)) 16 ≤ k ∧ k < po_cn (po_ls bl (bl i)) 16 + po_cn (po_sm bl (bl i)) 16) ↔ bl i = x)) (i0 : Nat) (h0 : i0 < 16) (e0 : x = bl i0) (H : post x (us, bl, ol, sv)) :
    ∀ d i, i + d = 16 → i ≤ i0 → wY_ranked_17 post (nI k) us bl ol sv (d + 1) (nI i) := by
  intro d
  induction d with
  | zero => intro i hi hj; omega
  | succ d ih =>
    intro i hi hj
    have h16 : i < 16 := by omega
    refine br_f (po_ge16 h16) ⟨po_16 h16, po_yless (x := bl i) (po_at (by omega)) ⟨po_16 h16, po_ysame (x := bl i) (po_at (by omega)) ?_⟩⟩
    have h17 := po_cn_le (po_ls bl (bl i)) 16
    have h18 := po_cn_le (po_sm bl (bl i)) 16
    by_cases w : bl i = x
    · obtain ⟨a, b⟩ := (hc i h16).mpr w
      refine br_f (nI_nlt a (by omega)) (br_f ?_ ⟨po_16 h16, ?_⟩)
      · rw [nI_add]; exact nI_ge b (by omega)
      · rw [po_at (f := bl) (k := i) (by omega), w]; exact H
    · have n : ¬ (po_cn (po_ls bl (bl i)) 16 ≤ k ∧ k < po_cn (po_ls bl (bl i)) 16 + po_cn (po_sm bl (bl i)) 16) := fun z => w ((hc i h16).mp z)
      have ne : i ≠ i0 := fun z => w (by rw [z]; exact e0.symm)
      have q := ih (i + 1) (by omega) (by omega)
      by_cases a : po_cn (po_ls bl (bl i)) 16 ≤ k
      · refine br_f (nI_nlt a (by omega)) (br_t ?_ (nm_r (nI_1 i) q))
        rw [nI_add]; exact nI_le (by omega) (by omega)
      · exact br_t (nI_lt (by omega) (by omega)) (nm_r (nI_1 i) q)
