theorem po_b1 : vp_nar .boolean 1 = 1 := by rfl
theorem po_b0 : vp_nar .boolean 0 = 0 := by rfl
theorem po_uc {f : Nat → Int32} {k : Nat} {x : Int32} (h : k < 100) : upd f (nI k).toNatClampNeg x = upd f k x := by rw [nI_clamp (by omega)]
theorem po_uc1 {f : Nat → Int32} {k : Nat} (h : k < 100) : upd f (nI k).toNatClampNeg (vp_nar .boolean 1) = upd f k 1 := by rw [nI_clamp (by omega), po_b1]
theorem po_uc0 {f : Nat → Int32} {k : Nat} (h : k < 100) : upd f (nI k).toNatClampNeg (vp_nar .boolean 0) = upd f k 0 := by rw [nI_clamp (by omega), po_b0]
theorem po_uv {f p : Nat → Int32} {k j : Nat} (h : k < 100) (hj : j < 100) : upd f (nI k).toNatClampNeg (p (nI j).toNatClampNeg) = upd f k (p j) := by rw [nI_clamp (by omega), nI_clamp (by omega)]
theorem po_at {f : Nat → Int32} {k : Nat} (h : k < 100) : f (nI k).toNatClampNeg = f k := by rw [nI_clamp (by omega)]
theorem po_16 {b : Nat} (h : b < 16) : vp_in (nI b) 16 := vp_in_nI h (by omega)
theorem po_60 {b : Nat} (h : b < 60) : vp_in (nI b) 60 := vp_in_nI h (by omega)
theorem po_10 : ¬ (1 : Int32) = 0 := by decide
theorem po_ge16 {b : Nat} (h : b < 16) : ¬ (16 : Int32) ≤ nI b := nI_ge (b := 16) h (by decide)
theorem po_le16 : (16 : Int32) ≤ nI 16 := nI_le (a := 16) (by omega) (by decide)
theorem po_ofN (x : Int32) : x = nI x.toBitVec.toNat := by
  apply Int32.toBitVec_inj.mp
  apply BitVec.eq_of_toNat_eq
  exact (pk_tn x.toBitVec.isLt).symm
theorem po_lf (f : Int32) : ∃ l, l < 8 ∧ (f.toUInt32 >>> ((29 : Int32).toUInt32 &&& Int32.toUInt32 31)).toInt32 = nI l := by
  refine ⟨_, ?_, po_ofN _⟩
  rw [pk_ushr f 29 29 (by decide)]
  have := f.toBitVec.isLt
  omega
theorem po_draw {post : Int32 → SX → Prop} {sh tc : Int32} {S V L I T sv ga : Nat → Int32} (H : ∀ (sh' : Int32) (l : Nat), l < 8 → post (nI l) (sh', tc, S, V, L, I, T, sv, ga)) : wpX_drawLeaf post (sh, tc, S, V, L, I, T, sv, ga) := by
  intro f ef
  obtain ⟨l, hl, e⟩ := po_lf f
  rw [e]
  exact H f l hl
theorem po_bat : ∀ l, l < 8 → ∀ d, d < 4 → ((8 + nI l) >>> ((3 - nI d) &&& 31)) - 1 = nI (po_bk l d) := by decide +kernel
theorem po_bucket {post : Int32 → Prop} {x y : Int32} {l d : Nat} (hl : l < 8) (hd : d < 4) (hx : x = nI l) (hy : y = nI d) (H : post (nI (po_bk l d))) : wpX_bucketAt post x y := by
  subst hx hy
  exact ek_v (P := post) (po_bat l hl d hd) H
theorem po_isB {post : Int32 → Prop} {b : Nat} (hb : b < 16) (H : post 1) : wpX_isBlock post (nI b) := br_f (nI_pos (by omega)) (br_f (po_ge16 hb) H)
theorem po_isM {post : Int32 → Prop} (H : post 0) : wpX_isBlock post (-1) := br_t (by decide) H
theorem po_keep {S : Nat → Int32} {s i : Nat} (h : S s = -1) : upd S i (-1) s = -1 := by
  by_cases e : s = i
  · rw [e]; exact pk_us
  · rw [pk_un e]; exact h
theorem po_emptyL {post : SX → Prop} {sh tc : Int32} {L sv ga g : Nat → Int32} {lf : Nat → Nat} {q : Nat} (hq : q < 15) (A : Nat → Prop)
    (H : ∀ h S V I T, po_Inv h lf g S V L I T → (∀ s, s < 60 → A s → S s = -1) → (∀ s, q * 4 ≤ s → s < q * 4 + 4 → S s = -1) → post (sh, tc, S, V, L, I, T, sv, ga)) :
    ∀ d i h S V I T, i + d = q * 4 + 4 → q * 4 ≤ i → po_Inv h lf g S V L I T → (∀ s, s < 60 → A s → S s = -1) → (∀ s, q * 4 ≤ s → s < i → S s = -1) → wX_emptyBucket_6 post (nI (q * 4)) sh tc (d + 1) (nI i) S V L I T sv ga := by
  have e4 : nI (q * 4) + 4 = nI (q * 4 + 4) := nI_add (q * 4) 4
  intro d
  induction d with
  | zero =>
    intro i h S V I T hi h4 K HA HE
    refine br_t ?_ (H h S V I T K HA (fun s a b => HE s a (by omega)))
    rw [e4]
    exact nI_le (by omega) (by omega)
  | succ d ih =>
    intro i h S V I T hi h4 K HA HE
    have h60 : i < 60 := by omega
    refine br_f ?_ ⟨po_60 h60, ?_⟩
    · rw [e4]
      exact nI_ge (by omega) (by omega)
    rcases K.2 i h60 with e | ⟨b, hb, e, hh⟩
    · refine nm_r (e' := -1) ((po_at (by omega)).trans e) (po_isM (br_t rfl (nm_r (nI_1 i) (ih (i + 1) h S V I T (by omega) (by omega) K HA ?_))))
      intro s a b
      by_cases z : s = i
      · rw [z]; exact e
      · exact HE s a (by omega)
    · refine nm_r (e' := nI b) ((po_at (by omega)).trans e) (po_isB hb (br_f po_10 ⟨po_60 h60, po_16 hb, nm_r (po_uv (by omega) (by omega)) ⟨po_16 hb, nm_r (po_uc1 (by omega)) ⟨po_60 h60, nm_r (po_uc (by omega)) ⟨po_60 h60, nm_r (po_uc (by omega)) (nm_r (nI_1 i) (ih (i + 1) _ _ _ _ _ (by omega) (by omega) (po_empty K h60 hb e) ?_ ?_))⟩⟩⟩⟩))
      · exact fun s hs a => po_keep (HA s hs a)
      · intro s a b
        by_cases z : s = i
        · rw [z]; exact pk_us
        · exact po_keep (HE s a (by omega))
theorem po_emptyB {post : SX → Prop} {sh tc : Int32} {S V L I T sv ga g : Nat → Int32} {h lf : Nat → Nat} {q : Nat} (hq : q < 15) (A : Nat → Prop) (K : po_Inv h lf g S V L I T) (HA : ∀ s, s < 60 → A s → S s = -1)
    (H : ∀ h S V I T, po_Inv h lf g S V L I T → (∀ s, s < 60 → A s → S s = -1) → (∀ s, q * 4 ≤ s → s < q * 4 + 4 → S s = -1) → post (sh, tc, S, V, L, I, T, sv, ga)) :
    wpX_emptyBucket post (sh, tc, S, V, L, I, T, sv, ga) (nI q) :=
  nm_r (pk_mul q 4) ⟨4 + 1, po_emptyL hq A H 4 (q * 4) h S V I T rfl (Nat.le_refl _) K HA (fun s a b => by omega)⟩
theorem po_openL {post : Int32 → SX → Prop} {L sv ga g : Nat → Int32} {lf : Nat → Nat} {b l : Nat} (hb : b < 16) (hl : l < 8) (el : lf b = l)
    (H : ∀ sh h lf S V L I T, po_Inv h lf g S V L I T → h b = 60 → (∀ s, s < 60 → ∀ e, e < 4 → s / 4 = po_bk l e → S s = -1) → post (nI l) (sh, 4, S, V, L, I, T, sv, ga)) :
    ∀ d j, j + d = 4 → ∀ sh h S V I T, po_Inv h lf g S V L I T → (∀ s, s < 60 → ∀ e, e < j → s / 4 = po_bk l e → S s = -1) → wX_openPathOf_14 post (nI b) (nI l) (d + 1) (nI j) sh (nI j) S V L I T sv ga := by
  intro d
  induction d with
  | zero =>
    intro j hj sh h S V I T K HE
    have ej : j = 4 := by omega
    subst ej
    have hh := (po_home K hb (fun s hs e he q => HE s hs e he (by rw [← el]; exact q))).1
    refine br_t (nI_lt (a := 3) (b := 4) (by omega) (by omega)) (po_draw fun sh' l' hl' => ?_)
    exact ⟨po_16 hb, nm_r (po_uc (by omega)) (H sh' h (po_up lf b l') S V _ I T (po_leaf K hb hh hl') hh HE)⟩
  | succ d ih =>
    intro j hj sh h S V I T K HE
    refine br_f (nI_nlt (a := 3) (b := j) (by omega) (by omega)) (po_bucket (d := j) hl (by omega) rfl rfl (po_emptyB (po_bk15 l hl j (by omega)) (fun s => ∃ e, e < j ∧ s / 4 = po_bk l e) K (fun s hs ⟨e, he, q⟩ => HE s hs e he q) (fun h S V I T K HA HB => ?_)))
    refine nm_r (nI_1 j) (nm_r (nI_1 j) (ih (j + 1) (by omega) _ h S V I T K ?_))
    intro s hs e he q
    by_cases z : e < j
    · exact HA s hs ⟨e, z, q⟩
    · have ze : e = j := by omega
      rw [ze] at q
      exact HB s (by omega) (by omega)
theorem po_open {post : Int32 → SX → Prop} {sh tc : Int32} {S V L I T sv ga g : Nat → Int32} {h lf : Nat → Nat} {b : Nat} (hb : b < 16) (K : po_Inv h lf g S V L I T)
    (H : ∀ l, l < 8 → ∀ sh h lf S V L I T, po_Inv h lf g S V L I T → h b = 60 → (∀ s, s < 60 → ∀ e, e < 4 → s / 4 = po_bk l e → S s = -1) → post (nI l) (sh, 4, S, V, L, I, T, sv, ga)) :
    wpX_openPathOf post (sh, tc, S, V, L, I, T, sv, ga) (nI b) :=
  ⟨po_16 hb, nm_r (e' := nI (lf b)) ((po_at (by omega)).trans (K.1 b hb).2.1) ⟨4 + 1, po_openL hb (K.1 b hb).1 rfl (H _ (K.1 b hb).1) 4 0 rfl sh h S V I T K (fun s _ e he => by omega)⟩⟩
theorem po_refL {post : SX → Prop} {sh tc : Int32} {L sv ga g : Nat → Int32} {lf : Nat → Nat} {q d : Nat} (hq : q < 15) (hd : d < 4) (A : Nat → Prop) (HN : ∀ t, A t → t / 4 ≠ q)
    (H : ∀ h S V I T, po_Inv h lf g S V L I T → (∀ t, t < 60 → A t → S t = -1) → post (sh, tc, S, V, L, I, T, sv, ga)) :
    ∀ m b, b + m = 16 → ∀ s h S V I T, q * 4 ≤ s → po_Inv h lf g S V L I T → (∀ t, t < 60 → A t → S t = -1) → (∀ t, s ≤ t → t < q * 4 + 4 → S t = -1) → s ≤ q * 4 + 4 → wX_refillBucket_20 post (nI d) (nI q) (nI (q * 4 + 4)) sh tc (m + 1) (nI s) (nI b) S V L I T sv ga := by
  intro m
  induction m with
  | zero =>
    intro b hb s h S V I T hs K HA HE hs4
    have eb : b = 16 := by omega
    subst eb
    exact br_t po_le16 (H h S V I T K HA)
  | succ m ih =>
    intro b hb s h S V I T hs K HA HE hs4
    have hb16 : b < 16 := by omega
    refine br_f (po_ge16 hb16) ?_
    by_cases c : q * 4 + 4 ≤ s
    · exact br_t (nI_le c (by omega)) (H h S V I T K HA)
    refine br_f (nI_ge (by omega) (by omega)) ⟨po_16 hb16, ?_⟩
    have h60 : s < 60 := by omega
    rcases po_st K hb16 with ⟨hh, e⟩ | ⟨hh, e⟩
    · refine br_f (by rw [po_at (f := I) (k := b) (by omega), e]; exact po_10) ⟨po_16 hb16, po_bucket (K.1 b hb16).1 hd ((po_at (by omega)).trans (K.1 b hb16).2.1) rfl ?_⟩
      by_cases w : po_bk (lf b) d = q
      · refine br_t (by rw [w]) ⟨po_60 h60, nm_r (po_uc (by omega)) ⟨po_16 hb16, po_60 h60, nm_r (po_uv (by omega) (by omega)) ⟨po_16 hb16, nm_r (po_uc (by omega)) ⟨po_16 hb16, nm_r (po_uc0 (by omega)) (nm_r (nI_1 s) (nm_r (nI_1 b) (ih (b + 1) (by omega) (s + 1) _ _ _ _ _ (by omega) (po_put K h60 hb16 (HE s (Nat.le_refl s) (by omega)) hh hd (by omega)) ?_ ?_ (by omega))))⟩⟩⟩⟩
        · intro t ht a
          have n := HN t a
          rw [pk_un (by omega)]
          exact HA t ht a
        · intro t ht a
          rw [pk_un (by omega)]
          exact HE t (by omega) a
      · refine br_f (fun z => w ((nI_eq (by have := po_bk15 _ (K.1 b hb16).1 d hd; omega) (by omega)).mp z)) (nm_r (nI_1 b) (ih (b + 1) (by omega) s h S V I T hs K HA HE hs4))
    · exact br_t ((po_at (by omega)).trans e) (nm_r (nI_1 b) (ih (b + 1) (by omega) s h S V I T hs K HA HE hs4))
theorem po_refill {post : SX → Prop} {sh tc : Int32} {S V L I T sv ga g : Nat → Int32} {h lf : Nat → Nat} {l d : Nat} (hl : l < 8) (hd : d < 4) (A : Nat → Prop) (HN : ∀ t, A t → t / 4 ≠ po_bk l d) (K : po_Inv h lf g S V L I T) (HA : ∀ t, t < 60 → A t → S t = -1) (HE : ∀ t, t < 60 → t / 4 = po_bk l d → S t = -1)
    (H : ∀ h S V I T, po_Inv h lf g S V L I T → (∀ t, t < 60 → A t → S t = -1) → post (sh, tc, S, V, L, I, T, sv, ga)) :
    wpX_refillBucket post (sh, tc, S, V, L, I, T, sv, ga) (nI l) (nI d) := by
  have hq := po_bk15 l hl d hd
  unfold wpX_refillBucket
  refine po_bucket hl hd rfl rfl (nm_r (pk_mul (po_bk l d) 4) (nm_r (nI_add (po_bk l d * 4) 4) ⟨16 + 1, po_refL hq hd A HN H 16 0 rfl (po_bk l d * 4) h S V I T (Nat.le_refl _) K HA (fun t a b => HE t (by omega) (by omega)) (by omega)⟩))
theorem po_closeL {post : SX → Prop} {sh tc : Int32} {L sv ga g : Nat → Int32} {lf : Nat → Nat} {l : Nat} (hl : l < 8)
    (H : ∀ h S V I T, po_Inv h lf g S V L I T → post (sh, tc, S, V, L, I, T, sv, ga)) :
    ∀ m, m ≤ 4 → ∀ h S V I T, po_Inv h lf g S V L I T → (∀ s, s < 60 → ∀ e, e < m → s / 4 = po_bk l e → S s = -1) → ∀ x, x = nI m + (-1) → wX_closePath_2 post (nI l) (m + 1) x sh tc S V L I T sv ga := by
  intro m
  induction m with
  | zero =>
    intro _ h S V I T K HE x ex
    subst ex
    exact br_t (by decide) (H h S V I T K)
  | succ m ih =>
    intro hm h S V I T K HE x ex
    rw [pk_m1] at ex
    subst ex
    refine br_f (nI_pos (by omega)) (po_refill hl (by omega) (fun s => ∃ e, e < m ∧ s / 4 = po_bk l e) ?_ K (fun s hs ⟨e, he, q⟩ => HE s hs e (by omega) q) (fun s hs q => HE s hs m (by omega) q) (fun h S V I T K HA => ?_))
    · intro t ⟨e, he, q⟩ z
      have := po_bkinj l hl e (by omega) m (by omega) (q.symm.trans z)
      omega
    · exact fun y ey => ih (by omega) h S V I T K (fun s hs e he q => HA s hs ⟨e, he, q⟩) y ey
theorem po_close {post : SX → Prop} {sh tc : Int32} {S V L I T sv ga g : Nat → Int32} {h lf : Nat → Nat} {l : Nat} (hl : l < 8) (K : po_Inv h lf g S V L I T) (HE : ∀ s, s < 60 → ∀ e, e < 4 → s / 4 = po_bk l e → S s = -1)
    (H : ∀ h S V I T, po_Inv h lf g S V L I T → post (sh, tc, S, V, L, I, T, sv, ga)) :
    wpX_closePath post (sh, tc, S, V, L, I, T, sv, ga) (nI l) :=
  ⟨4 + 1, po_closeL hl H 4 (Nat.le_refl 4) h S V I T K HE 3 (by decide)⟩
def po_G (g S V L I T : Nat → Int32) : Prop := ∃ h lf, po_Inv h lf g S V L I T
theorem po_fetch {post : Int32 → SX → Prop} {sh tc : Int32} {S V L I T sv ga g : Nat → Int32} {b : Nat} (hb : b < 16) (K : po_G g S V L I T)
    (H : ∀ sh S V L I T, po_G g S V L I T → post (g b) (sh, 4, S, V, L, I, T, sv, ga)) :
    wpX_fetch post (sh, tc, S, V, L, I, T, sv, ga) (nI b) := by
  obtain ⟨h, lf, K⟩ := K
  unfold wpX_fetch
  refine po_open hb K (fun l hl sh h lf S V L I T K hh HE => ?_)
  refine ⟨po_16 hb, nm_r (e' := g b) ((po_at (by omega)).trans ?_) (po_close hl K HE (fun h S V I T K => H sh S V L I T ⟨h, lf, K⟩))⟩
  rcases (K.1 b hb).2.2 with ⟨_, _, c⟩ | ⟨c, _⟩
  · exact c
  · omega
theorem po_store {post : SX → Prop} {sh tc : Int32} {S V L I T sv ga g : Nat → Int32} {b : Nat} {x : Int32} (hb : b < 16) (K : po_G g S V L I T)
    (H : ∀ sh S V L I T, po_G (upd g b x) S V L I T → post (sh, 4, S, V, L, I, T, sv, ga)) :
    wpX_store post (sh, tc, S, V, L, I, T, sv, ga) (nI b) x := by
  obtain ⟨h, lf, K⟩ := K
  unfold wpX_store
  refine po_open hb K (fun l hl sh h lf S V L I T K hh HE => ?_)
  exact ⟨po_16 hb, nm_r (po_uc (by omega)) (po_close hl (po_write K hb hh x) HE (fun h S V I T K => H sh S V L I T ⟨h, lf, K⟩))⟩
