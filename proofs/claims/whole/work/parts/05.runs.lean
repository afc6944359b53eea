def po_it (f : Nat → (Nat → Int32) → Nat → Int32) : Nat → Nat → (Nat → Int32) → Nat → Int32
  | 0, _, g => g
  | d + 1, i, g => po_it f d (i + 1) (f i g)
theorem po_fillL {post : Int32 → SX → Prop} {b c : Nat} {v st : Int32} {sv ga : Nat → Int32} (hb : b + c ≤ 16) :
    ∀ d i, i + d = c → ∀ g sh tc S V L I T, po_G g S V L I T → (d = 0 → tc = 4) → (∀ sh S V L I T, po_G (po_it (fun i g => upd g (b + i) (v + nI i * st)) d i g) S V L I T → post 0 (sh, 4, S, V, L, I, T, sv, ga)) → wX_fill_31 post (nI b) (nI c) v st (d + 1) (nI i) sh tc S V L I T sv ga := by
  intro d
  induction d with
  | zero =>
    intro i hi g sh tc S V L I T K ht H
    have et := ht rfl
    subst et
    exact br_t (nI_le (by omega) (by omega)) (H sh S V L I T K)
  | succ d ih =>
    intro i hi g sh tc S V L I T K ht H
    exact br_f (nI_ge (by omega) (by omega)) (po_sto (b := b + i) (by omega) K (nI_add b i) rfl fun sh S V L I T K => nm_r (nI_1 i) (ih (i + 1) (by omega) _ sh 4 S V L I T K (fun _ => rfl) H))
theorem po_yfillL {post : Int32 → SY → Prop} {us : Int32} {b c : Nat} {v st : Int32} {ol sv : Nat → Int32} (hb : b + c ≤ 16) :
    ∀ d i, i + d = c → ∀ g, post 0 (us, po_it (fun i g => upd g (b + i) (v + nI i * st)) d i g, ol, sv) → wY_fill_36 post (nI b) (nI c) v st us (d + 1) (nI i) g ol sv := by
  intro d
  induction d with
  | zero =>
    intro i hi g H
    exact br_t (nI_le (by omega) (by omega)) H
  | succ d ih =>
    intro i hi g H
    refine br_f (nI_ge (by omega) (by omega)) ⟨pk_in (b + i) 16 (by omega) (nI_add b i), nm_r (e' := upd g (b + i) (v + nI i * st)) ?_ (nm_r (nI_1 i) (ih (i + 1) (by omega) _ H))⟩
    rw [pk_cl (b + i) (nI_add b i)]
theorem po_rotL {post : Int32 → SX → Prop} {x : Int32} {sv ga g0 : Nat → Int32} (hg : ∀ j, j < 16 → ga j = g0 j) :
    ∀ d i, i + d = 16 → ∀ g sh tc S V L I T, po_G g S V L I T → (d = 0 → tc = 4) → (∀ sh S V L I T, po_G (po_it (fun i g => upd g i (g0 ((nI i + x) &&& 15).toNatClampNeg)) d i g) S V L I T → post 0 (sh, 4, S, V, L, I, T, sv, ga)) → wX_rotate_6 post x (d + 1) (nI i) sh tc S V L I T sv ga := by
  intro d
  induction d with
  | zero =>
    intro i hi g sh tc S V L I T K ht H
    have ei : i = 16 := by omega
    subst ei
    have et := ht rfl
    subst et
    exact br_t po_le16 (H sh S V L I T K)
  | succ d ih =>
    intro i hi g sh tc S V L I T K ht H
    have h16 : i < 16 := by omega
    obtain ⟨j, hj, e⟩ := pk_andE (nI i + x) (m := 15) 4 (by decide)
    have hj : j < 16 := hj
    refine br_f (po_ge16 h16) (nm_r e ⟨po_16 hj, po_sto (x := g0 ((nI i + x) &&& 15).toNatClampNeg) h16 K rfl ?_ fun sh S V L I T K => nm_r (nI_1 i) (ih (i + 1) (by omega) _ sh 4 S V L I T K (fun _ => rfl) H)⟩)
    rw [e, po_at (f := ga) (k := j) (by omega), po_at (f := g0) (k := j) (by omega)]
    exact hg j hj
theorem po_yrotL {post : Int32 → SY → Prop} {us x : Int32} {ol sv g0 : Nat → Int32} (hg : ∀ j, j < 16 → ol j = g0 j) :
    ∀ d i, i + d = 16 → ∀ g, post 0 (us, po_it (fun i g => upd g i (g0 ((nI i + x) &&& 15).toNatClampNeg)) d i g, ol, sv) → wY_rotate_33 post x us (d + 1) (nI i) g ol sv := by
  intro d
  induction d with
  | zero =>
    intro i hi g H
    have ei : i = 16 := by omega
    subst ei
    exact br_t po_le16 H
  | succ d ih =>
    intro i hi g H
    have h16 : i < 16 := by omega
    obtain ⟨j, hj, e⟩ := pk_andE (nI i + x) (m := 15) 4 (by decide)
    have hj : j < 16 := hj
    refine br_f (po_ge16 h16) ⟨pk_in j 16 hj e, po_16 h16, nm_r (e' := upd g i (g0 ((nI i + x) &&& 15).toNatClampNeg)) ?_ (nm_r (nI_1 i) (ih (i + 1) (by omega) _ H))⟩
    rw [e, po_uc (by omega), po_at (f := ol) (k := j) (by omega), po_at (f := g0) (k := j) (by omega), hg j hj]
theorem po_yoldL {post : Int32 → SY → Prop} {us x : Int32} {bl sv : Nat → Int32} (H : ∀ ol, (∀ j, j < 16 → ol j = bl j) → ∃ n, wY_rotate_33 post x us n 0 bl ol sv) :
    ∀ d i, i + d = 16 → ∀ ol, (∀ j, j < i → ol j = bl j) → wY_rotate_7 post x us (d + 1) (nI i) bl ol sv := by
  intro d
  induction d with
  | zero =>
    intro i hi ol hg
    have ei : i = 16 := by omega
    subst ei
    exact br_t po_le16 (H ol hg)
  | succ d ih =>
    intro i hi ol hg
    have h16 : i < 16 := by omega
    refine br_f (po_ge16 h16) ⟨po_16 h16, po_16 h16, nm_r (po_uv (by omega) (by omega)) (nm_r (nI_1 i) (ih (i + 1) (by omega) _ ?_))⟩
    intro j hj
    by_cases z : j = i
    · rw [z]; exact pk_us
    · rw [pk_un z]; exact hg j (by omega)
def po_su (g : Nat → Int32) : Nat → Nat → Int32 → Int32
  | 0, _, a => a
  | d + 1, i, a => po_su g d (i + 1) (a + g i)
theorem po_sumL {post : Int32 → SX → Prop} {g sv ga : Nat → Int32} :
    ∀ d i, i + d = 16 → ∀ a sh tc S V L I T, po_G g S V L I T → (d = 0 → tc = 4) → (∀ sh S V L I T, po_G g S V L I T → post (po_su g d i a) (sh, 4, S, V, L, I, T, sv, ga)) → wX_sum_4 post (d + 1) a (nI i) sh tc S V L I T sv ga := by
  intro d
  induction d with
  | zero =>
    intro i hi a sh tc S V L I T K ht H
    have ei : i = 16 := by omega
    subst ei
    have et := ht rfl
    subst et
    exact br_t po_le16 (H sh S V L I T K)
  | succ d ih =>
    intro i hi a sh tc S V L I T K ht H
    have h16 : i < 16 := by omega
    exact br_f (po_ge16 h16) (po_fetch h16 K fun sh S V L I T K => nm_e (nm_r (nI_1 i) (ih (i + 1) (by omega) (a + g i) sh 4 S V L I T K (fun _ => rfl) H)))
theorem po_ysumL {post : Int32 → SY → Prop} {us : Int32} {bl ol sv : Nat → Int32} :
    ∀ d i, i + d = 16 → ∀ a, post (po_su bl d i a) (us, bl, ol, sv) → wY_sum_9 post us bl ol sv (d + 1) a (nI i) := by
  intro d
  induction d with
  | zero =>
    intro i hi a H
    have ei : i = 16 := by omega
    subst ei
    exact br_t po_le16 H
  | succ d ih =>
    intro i hi a H
    have h16 : i < 16 := by omega
    refine br_f (po_ge16 h16) ⟨po_16 h16, nm_r (e' := a + bl i) ?_ (nm_r (nI_1 i) (ih (i + 1) (by omega) (a + bl i) H))⟩
    rw [po_at (f := bl) (k := i) (by omega)]
def po_fi (g : Nat → Int32) (x : Int32) : Nat → Nat → Int32
  | 0, _ => -2
  | d + 1, i => if g i = x then nI i else po_fi g x d (i + 1)
theorem po_findL {post : Int32 → SX → Prop} {x : Int32} {g sv ga : Nat → Int32} :
    ∀ d i, i + d = 16 → ∀ sh tc S V L I T, po_G g S V L I T → (d = 0 → tc = 4) → (∀ sh S V L I T, po_G g S V L I T → post (po_fi g x d i) (sh, 4, S, V, L, I, T, sv, ga)) → wX_find_11 post x (d + 1) (nI i) sh tc S V L I T sv ga := by
  intro d
  induction d with
  | zero =>
    intro i hi sh tc S V L I T K ht H
    have ei : i = 16 := by omega
    subst ei
    have et := ht rfl
    subst et
    exact br_t po_le16 (H sh S V L I T K)
  | succ d ih =>
    intro i hi sh tc S V L I T K ht H
    have h16 : i < 16 := by omega
    refine br_f (po_ge16 h16) (po_fetch h16 K fun sh S V L I T K => ?_)
    by_cases c : g i = x
    · have q := H sh S V L I T K
      rw [po_fi, if_pos c] at q
      exact br_t c q
    · refine br_f c (nm_r (nI_1 i) (ih (i + 1) (by omega) sh 4 S V L I T K (fun _ => rfl) ?_))
      intro sh S V L I T K
      have q := H sh S V L I T K
      rw [po_fi, if_neg c] at q
      exact q
theorem po_yfindL {post : Int32 → SY → Prop} {us x : Int32} {bl ol sv : Nat → Int32} :
    ∀ d i, i + d = 16 → post (po_fi bl x d i) (us, bl, ol, sv) → wY_find_17 post x us bl ol sv (d + 1) (nI i) := by
  intro d
  induction d with
  | zero =>
    intro i hi H
    have ei : i = 16 := by omega
    subst ei
    exact br_t po_le16 H
  | succ d ih =>
    intro i hi H
    have h16 : i < 16 := by omega
    refine br_f (po_ge16 h16) ⟨po_16 h16, ?_⟩
    by_cases c : bl i = x
    · rw [po_fi, if_pos c] at H
      exact br_t ((po_at (by omega)).trans c) H
    · rw [po_fi, if_neg c] at H
      exact br_f (by rw [po_at (f := bl) (k := i) (by omega)]; exact c) (nm_r (nI_1 i) (ih (i + 1) (by omega) H))
theorem po_ix (q i : Nat) : nI q * 16 + nI i = nI (q * 16 + i) := by
  rw [show nI q * 16 = nI (q * 16) from pk_mul q 16, nI_add]
theorem po_iy (q i : Nat) : 16 * nI q + nI i = nI (q * 16 + i) := by
  rw [show 16 * nI q = nI (16 * q) from pk_mul 16 q, nI_add, Nat.mul_comm]
theorem po_saveL {post : Int32 → SX → Prop} {q : Nat} (hq : q < 2) {g ga : Nat → Int32} :
    ∀ d i, i + d = 16 → ∀ s sh tc S V L I T, po_G g S V L I T → (d = 0 → tc = 4) → (∀ sh S V L I T, po_G g S V L I T → post 0 (sh, 4, S, V, L, I, T, po_it (fun i s => upd s (q * 16 + i) (g i)) d i s, ga)) → wX_save_11 post (nI q) (d + 1) (nI i) sh tc S V L I T s ga := by
  intro d
  induction d with
  | zero =>
    intro i hi s sh tc S V L I T K ht H
    have ei : i = 16 := by omega
    subst ei
    have et := ht rfl
    subst et
    exact br_t po_le16 (H sh S V L I T K)
  | succ d ih =>
    intro i hi s sh tc S V L I T K ht H
    have h16 : i < 16 := by omega
    refine br_f (po_ge16 h16) (po_fetch h16 K fun sh S V L I T K => ?_)
    refine ⟨pk_in (q * 16 + i) 32 (by omega) (po_ix q i), nm_r (e' := upd s (q * 16 + i) (g i)) ?_ (nm_r (nI_1 i) (ih (i + 1) (by omega) _ sh 4 S V L I T K (fun _ => rfl) H))⟩
    rw [pk_cl (q * 16 + i) (po_ix q i)]
theorem po_ysaveL {post : Int32 → SY → Prop} {us : Int32} {q : Nat} (hq : q < 2) {bl ol : Nat → Int32} :
    ∀ d i, i + d = 16 → ∀ s, post 0 (us, bl, ol, po_it (fun i s => upd s (q * 16 + i) (bl i)) d i s) → wY_save_17 post (nI q) us (d + 1) (nI i) bl ol s := by
  intro d
  induction d with
  | zero =>
    intro i hi s H
    have ei : i = 16 := by omega
    subst ei
    exact br_t po_le16 H
  | succ d ih =>
    intro i hi s H
    have h16 : i < 16 := by omega
    refine br_f (po_ge16 h16) ⟨po_16 h16, pk_in (q * 16 + i) 32 (by omega) (po_iy q i), nm_r (e' := upd s (q * 16 + i) (bl i)) ?_ (nm_r (nI_1 i) (ih (i + 1) (by omega) _ H))⟩
    rw [pk_cl (q * 16 + i) (po_iy q i), po_at (f := bl) (k := i) (by omega)]
def po_df (g s : Nat → Int32) (q : Nat) : Nat → Bool := fun j => decide (¬ g j = s (q * 16 + j))
theorem po_df_t {g s : Nat → Int32} {q j : Nat} (h : ¬ g j = s (q * 16 + j)) : po_df g s q j = true := decide_eq_true h
theorem po_df_f {g s : Nat → Int32} {q j : Nat} (h : g j = s (q * 16 + j)) : ¬ po_df g s q j = true := fun z => of_decide_eq_true z h
theorem po_unL {post : Int32 → SX → Prop} {q : Nat} (hq : q < 2) {g sv ga : Nat → Int32} (H : ∀ sh S V L I T, po_G g S V L I T → post (nI (po_cn (po_df g sv q) 16)) (sh, 4, S, V, L, I, T, sv, ga)) :
    ∀ d i, i + d = 16 → ∀ sh tc S V L I T, po_G g S V L I T → (d = 0 → tc = 4) → wX_countUnlike_4 post (nI q) (d + 1) (nI (po_cn (po_df g sv q) i)) (nI i) sh tc S V L I T sv ga := by
  intro d
  induction d with
  | zero =>
    intro i hi sh tc S V L I T K ht
    have ei : i = 16 := by omega
    subst ei
    have et := ht rfl
    subst et
    exact br_t po_le16 (H sh S V L I T K)
  | succ d ih =>
    intro i hi sh tc S V L I T K ht
    have h16 : i < 16 := by omega
    have q1 := fun sh S V L I T K => ih (i + 1) (by omega) sh 4 S V L I T K (fun _ => rfl)
    refine br_f (po_ge16 h16) (po_fetch h16 K fun sh S V L I T K => ?_)
    refine ⟨pk_in (q * 16 + i) 32 (by omega) (po_ix q i), ?_⟩
    have q2 := q1 sh S V L I T K
    by_cases c : g i = sv (q * 16 + i)
    · rw [po_cn_f (po_df_f c)] at q2
      exact br_t (by rw [pk_cl (q * 16 + i) (po_ix q i)]; exact c) (nm_r (nI_1 i) q2)
    · rw [po_cn_t (po_df_t c)] at q2
      exact br_f (by rw [pk_cl (q * 16 + i) (po_ix q i)]; exact c) (nm_r (nI_1 _) (nm_r (nI_1 i) q2))
theorem po_un {post : Int32 → SX → Prop} {q : Nat} (hq : q < 2) {sh tc : Int32} {S V L I T g sv ga : Nat → Int32} (K : po_G g S V L I T) (H : ∀ sh S V L I T, po_G g S V L I T → post (nI (po_cn (po_df g sv q) 16)) (sh, 4, S, V, L, I, T, sv, ga)) :
    wpX_countUnlike post (sh, tc, S, V, L, I, T, sv, ga) (nI q) := ⟨16 + 1, po_unL hq H 16 0 rfl sh tc S V L I T K (fun z => by omega)⟩
theorem po_ydiffL {post : Int32 → SY → Prop} {us : Int32} {q : Nat} (hq : q < 2) {bl ol sv : Nat → Int32} (H : post (nI (po_cn (po_df bl sv q) 16)) (us, bl, ol, sv)) :
    ∀ d i, i + d = 16 → wY_differing_19 post (nI q) us bl ol sv (d + 1) (nI (po_cn (po_df bl sv q) i)) (nI i) := by
  intro d
  induction d with
  | zero =>
    intro i hi
    have ei : i = 16 := by omega
    subst ei
    exact br_t po_le16 H
  | succ d ih =>
    intro i hi
    have h16 : i < 16 := by omega
    have q2 := ih (i + 1) (by omega)
    refine br_f (po_ge16 h16) ⟨po_16 h16, pk_in (q * 16 + i) 32 (by omega) (po_iy q i), ?_⟩
    by_cases c : bl i = sv (q * 16 + i)
    · rw [po_cn_f (po_df_f c)] at q2
      exact br_t (by rw [pk_cl (q * 16 + i) (po_iy q i), po_at (f := bl) (k := i) (by omega)]; exact c) (nm_r (nI_1 i) q2)
    · rw [po_cn_t (po_df_t c)] at q2
      exact br_f (by rw [pk_cl (q * 16 + i) (po_iy q i), po_at (f := bl) (k := i) (by omega)]; exact c) (nm_r (nI_1 _) (nm_r (nI_1 i) q2))
theorem po_ydiff {post : Int32 → SY → Prop} {us : Int32} {q : Nat} (hq : q < 2) {bl ol sv : Nat → Int32} (H : post (nI (po_cn (po_df bl sv q) 16)) (1, bl, ol, sv)) :
    wpY_differing post (us, bl, ol, sv) (nI q) := by
  unfold wpY_differing
  exact po_bsF hq (br_t rfl ⟨16 + 1, po_ydiffL hq H 16 0 rfl⟩)
theorem po_loadL {post : Int32 → SX → Prop} {q : Nat} (hq : q < 2) {r : Int32} {sv ga : Nat → Int32} :
    ∀ d i, i + d = 16 → ∀ g sh tc S V L I T, po_G g S V L I T → (d = 0 → tc = 4) → (∀ sh S V L I T, po_G (po_it (fun i g => upd g i (sv (q * 16 + i))) d i g) S V L I T → post r (sh, 4, S, V, L, I, T, sv, ga)) → wX_load_17 post (nI q) r (d + 1) (nI i) sh tc S V L I T sv ga := by
  intro d
  induction d with
  | zero =>
    intro i hi g sh tc S V L I T K ht H
    have ei : i = 16 := by omega
    subst ei
    have et := ht rfl
    subst et
    exact br_t po_le16 (H sh S V L I T K)
  | succ d ih =>
    intro i hi g sh tc S V L I T K ht H
    have h16 : i < 16 := by omega
    refine br_f (po_ge16 h16) ⟨pk_in (q * 16 + i) 32 (by omega) (po_ix q i), po_sto (x := sv (q * 16 + i)) h16 K rfl ?_ fun sh S V L I T K => nm_r (nI_1 i) (ih (i + 1) (by omega) _ sh 4 S V L I T K (fun _ => rfl) H)⟩
    rw [pk_cl (q * 16 + i) (po_ix q i)]
theorem po_yloadL {post : Int32 → SY → Prop} {us : Int32} {q : Nat} (hq : q < 2) {r : Int32} {ol sv : Nat → Int32} :
    ∀ d i, i + d = 16 → ∀ g, post r (us, po_it (fun i g => upd g i (sv (q * 16 + i))) d i g, ol, sv) → wY_load_18 post (nI q) r us (d + 1) (nI i) g ol sv := by
  intro d
  induction d with
  | zero =>
    intro i hi g H
    have ei : i = 16 := by omega
    subst ei
    exact br_t po_le16 H
  | succ d ih =>
    intro i hi g H
    have h16 : i < 16 := by omega
    refine br_f (po_ge16 h16) ⟨pk_in (q * 16 + i) 32 (by omega) (po_iy q i), po_16 h16, nm_r (e' := upd g i (sv (q * 16 + i))) ?_ (nm_r (nI_1 i) (ih (i + 1) (by omega) _ H))⟩
    rw [pk_cl (q * 16 + i) (po_iy q i), po_uc (by omega)]
theorem po_onL {post : Int32 → Prop} {l d : Nat} (hl : l < 8) (hd : d < 4) (H : post 1) : ∀ m j, j + m = d → wX_isOnPath_2 post (nI (po_bk l d)) (nI l) (m + 1) (nI j) := by
  intro m
  induction m with
  | zero =>
    intro j hj
    have ej : j = d := by omega
    subst ej
    exact br_f (nI_nlt (a := 3) (by omega) (by omega)) (po_bucket hl hd rfl rfl (br_t rfl H))
  | succ m ih =>
    intro j hj
    refine br_f (nI_nlt (a := 3) (by omega) (by omega)) (po_bucket (d := j) hl (by omega) rfl rfl ?_)
    exact br_c (fun _ => H) (fun _ => nm_r (nI_1 j) (ih (j + 1) (by omega)))
theorem po_on {post : Int32 → Prop} {l d : Nat} {x y : Int32} (hl : l < 8) (hd : d < 4) (hx : x = nI (po_bk l d)) (hy : y = nI l) (H : post 1) : wpX_isOnPath post x y := by
  subst hx hy
  exact ⟨d + 1, po_onL hl hd H d 0 (by omega)⟩
def po_cp (h : Nat → Nat) (b s : Nat) : Nat := if h b = 60 then 1 else if h b < s then 1 else 0
theorem po_keptL {post : Int32 → Prop} {sh tc : Int32} {S V L I T sv ga g : Nat → Int32} {h lf : Nat → Nat} (K : po_Inv h lf g S V L I T) {b : Nat} (hb : b < 16) (H : post 1) :
    ∀ d s, s + d = 60 → wX_isKeptWell_17 post (nI b) sh tc S V L I T sv ga (d + 1) (nI (po_cp h b s)) (nI s) := by
  intro d
  induction d with
  | zero =>
    intro s hs
    have es : s = 60 := by omega
    subst es
    have e1 : po_cp h b 60 = 1 := by
      unfold po_cp
      rcases po_st K hb with ⟨z, _⟩ | ⟨z, _⟩
      · rw [if_pos z]
      · rw [if_neg (by omega), if_pos z]
    rw [e1]
    exact br_t (nI_le (a := 60) (by omega) (by omega)) (br_t rfl H)
  | succ d ih =>
    intro s hs
    have h60 : s < 60 := by omega
    have q := ih (s + 1) (by omega)
    refine br_f (nI_ge (b := 60) h60 (by omega)) ⟨po_60 h60, ?_⟩
    by_cases c : S s = nI b
    · have hh := po_hm K h60 hb c
      have e0 : po_cp h b s = 0 := by
        unfold po_cp
        rw [if_neg (by omega), if_neg (by omega)]
      have e1 : po_cp h b (s + 1) = 0 + 1 := by
        unfold po_cp
        rw [if_neg (by omega), if_pos (by omega)]
      rw [e1] at q
      rw [e0]
      obtain ⟨l1, l2, r⟩ := K.1 b hb
      rcases r with ⟨r, _⟩ | ⟨_, _, _, _, d', hd', r⟩
      · omega
      · refine br_t ((po_at (by omega)).trans c) (nm_r (nI_1 0) ⟨by decide, po_16 hb, po_on (d := d') l1 hd' ?_ ((po_at (by omega)).trans l2) (br_f po_10 (nm_r (nI_1 s) q))⟩)
        rw [← r, hh]
        exact pk_div (d := 4) (by omega) (by omega) (by omega)
    · have e1 : po_cp h b (s + 1) = po_cp h b s := by
        unfold po_cp
        by_cases z : h b = 60
        · rw [if_pos z, if_pos z]
        · have n : h b ≠ s := by
            intro y
            obtain ⟨l1, l2, r⟩ := K.1 b hb
            rcases r with ⟨r, _⟩ | ⟨_, _, r, _⟩
            · omega
            · rw [y] at r; exact c r
          rw [if_neg z, if_neg z]
          by_cases w : h b < s
          · rw [if_pos w, if_pos (by omega)]
          · rw [if_neg w, if_neg (by omega)]
      rw [e1] at q
      exact br_f (by rw [po_at (f := S) (k := s) (by omega)]; exact c) (nm_r (nI_1 s) q)
theorem po_kept {post : Int32 → Prop} {sh tc : Int32} {S V L I T sv ga g : Nat → Int32} (K : po_G g S V L I T) {b : Nat} (hb : b < 16) (H : post 1) :
    wpX_isKeptWell post (sh, tc, S, V, L, I, T, sv, ga) (nI b) := by
  obtain ⟨h, lf, K⟩ := K
  have q := po_keptL (sh := sh) (tc := tc) (sv := sv) (ga := ga) K hb H 60 0 rfl
  rcases po_st K hb with ⟨z, e⟩ | ⟨z, e⟩
  · have e1 : po_cp h b 0 = 1 := by
      unfold po_cp
      rw [if_pos z]
    rw [e1] at q
    exact ⟨po_16 hb, br_f (by rw [po_at (f := I) (k := b) (by omega), e]; exact po_10) ⟨_, q⟩⟩
  · have e1 : po_cp h b 0 = 0 := by
      unfold po_cp
      rw [if_neg (by omega), if_neg (by omega)]
    rw [e1] at q
    exact ⟨po_16 hb, br_t ((po_at (by omega)).trans e) ⟨_, q⟩⟩
theorem po_audL {post : Int32 → Prop} {sh tc : Int32} {S V L I T sv ga g : Nat → Int32} (K : po_G g S V L I T) (H : post 0) :
    ∀ d i, i + d = 16 → wX_audit_4 post sh tc S V L I T sv ga (d + 1) 0 (nI i) := by
  intro d
  induction d with
  | zero =>
    intro i hi
    have ei : i = 16 := by omega
    subst ei
    exact br_t po_le16 H
  | succ d ih =>
    intro i hi
    have h16 : i < 16 := by omega
    exact br_f (po_ge16 h16) (po_kept K h16 (br_f po_10 (nm_r (nI_1 i) (ih (i + 1) (by omega)))))
theorem po_iniB {post : SX → Prop} {tc : Int32} {S V sv ga : Nat → Int32} (hS : ∀ s, s < 60 → S s = -1) (H : ∀ sh L I, po_G (fun _ => 0) S V L I (fun _ => 0) → post (sh, tc, S, V, L, I, (fun _ => 0), sv, ga)) :
    ∀ d i, i + d = 16 → ∀ sh L I, (∀ b, b < i → I b = 1 ∧ ∃ l, l < 8 ∧ L b = nI l) → wX_init_88 post (d + 1) (nI i) sh tc S V L I (fun _ => 0) sv ga := by
  intro d
  induction d with
  | zero =>
    intro i hi sh L I hI
    have ei : i = 16 := by omega
    subst ei
    refine br_t po_le16 (H sh L I ⟨fun _ => 60, fun b => (L b).toNatClampNeg, fun b hb => ?_, fun s hs => .inl (hS s hs)⟩)
    obtain ⟨e, l, hl, q⟩ := hI b hb
    have z : (L b).toNatClampNeg = l := by rw [q, nI_clamp (by omega)]
    refine ⟨?_, ?_, .inl ⟨rfl, e, rfl⟩⟩
    · show (L b).toNatClampNeg < 8
      rw [z]; exact hl
    · show L b = nI (L b).toNatClampNeg
      rw [z]; exact q
  | succ d ih =>
    intro i hi sh L I hI
    have h16 : i < 16 := by omega
    refine br_f (po_ge16 h16) (po_draw fun sh l hl => ?_)
    refine ⟨po_16 h16, nm_r (po_uc (by omega)) ⟨po_16 h16, nm_r (po_uc1 (by omega)) (nm_r (nI_1 i) (ih (i + 1) (by omega) sh _ _ ?_))⟩⟩
    intro b hb
    by_cases z : b = i
    · rw [z, pk_us, pk_us]; exact ⟨rfl, l, hl, rfl⟩
    · rw [pk_un z, pk_un z]; exact hI b (by omega)
theorem po_iniS {post : SX → Prop} {sh tc : Int32} {V sv ga : Nat → Int32} (H : ∀ sh S L I, po_G (fun _ => 0) S V L I (fun _ => 0) → post (sh, tc, S, V, L, I, (fun _ => 0), sv, ga)) :
    ∀ d i, i + d = 60 → ∀ S, (∀ s, s < i → S s = -1) → wX_init_67 post sh tc (d + 1) (nI i) S V (fun _ => 0) (fun _ => 0) (fun _ => 0) sv ga := by
  intro d
  induction d with
  | zero =>
    intro i hi S hS
    have ei : i = 60 := by omega
    subst ei
    exact br_t (nI_le (a := 60) (by omega) (by omega)) ⟨16 + 1, po_iniB hS (fun sh L I => H sh S L I) 16 0 rfl sh _ _ (fun b hb => by omega)⟩
  | succ d ih =>
    intro i hi S hS
    have h60 : i < 60 := by omega
    refine br_f (nI_ge (b := 60) h60 (by omega)) ⟨po_60 h60, nm_r (po_uc (by omega)) (nm_r (nI_1 i) (ih (i + 1) (by omega) _ ?_))⟩
    intro s hs
    by_cases z : s = i
    · rw [z]; exact pk_us
    · exact po_keep (hS s (by omega))
