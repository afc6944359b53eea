def i_Rel (k : Nat) (u : SX) (v : SY) : Prop := ∃ (sh tc us : Int32) (S V L I T sv ga bl ol : Nat → Int32), u = (sh, tc, S, V, L, I, T, sv, ga) ∧ v = (us, bl, ol, sv) ∧ po_G bl S V L I T ∧ ((us = 0 ∧ tc = 0) ∨ (us = 1 ∧ tc = 4))
theorem i_up {k : Nat} {u : SX} {v : SY} (h : i_Rel k u v) : i_Rel (k + 5) u v := h
theorem po_rel {k : Nat} {sh : Int32} {S V L I T sv ga bl ol : Nat → Int32} (K : po_G bl S V L I T) : i_Rel k (sh, 4, S, V, L, I, T, sv, ga) (1, bl, ol, sv) := ⟨sh, 4, 1, S, V, L, I, T, sv, ga, bl, ol, rfl, rfl, K, .inr ⟨rfl, rfl⟩⟩
theorem po_rel0 {k : Nat} {sh tc us : Int32} {S V L I T sv ga bl ol : Nat → Int32} (K : po_G bl S V L I T) (hu : (us = 0 ∧ tc = 0) ∨ (us = 1 ∧ tc = 4)) : i_Rel k (sh, tc, S, V, L, I, T, sv, ga) (us, bl, ol, sv) := ⟨sh, tc, us, S, V, L, I, T, sv, ga, bl, ol, rfl, rfl, K, hu⟩
theorem i_vc0 (k0 : Int32) : wpX_init (fun u => wpY_init (fun v => i_Rel 1 u v) k0) k0 := ⟨60 + 1, po_iniS (fun _ _ _ _ K => po_rel0 (k := 1) K (.inl ⟨rfl, rfl⟩)) 60 0 rfl _ (fun s hs => by omega)⟩
theorem i_vc_stir {k : Nat} {u : SX} {v : SY} (I : i_Rel k u v) (hk : k + 5 ≤ 2561) (v1 : Int32) : wpX_stir (fun u' => wpY_stir (fun v' => i_Rel (k + 5) u' v') v v1) u v1 := by
  obtain ⟨sh, tc, us, S, V, L, I, T, sv, ga, bl, ol, rfl, rfl, K, hu⟩ := I
  exact po_rel0 (k := k + 5) K hu
theorem i_vc_read {k : Nat} {u : SX} {v : SY} (I : i_Rel k u v) (hk : k + 5 ≤ 2561) (v1 : Int32) : wpX_read (fun r u' => wpY_read (fun r' v' => r' = r ∧ i_Rel (k + 5) u' v') v v1) u v1 := by
  obtain ⟨sh, tc, us, S, V, L, I, T, sv, ga, bl, ol, rfl, rfl, K, hu⟩ := I
  unfold wpX_read wpY_read
  dsimp only
  rcases po_blk v1 with hx | ⟨b, hb, rfl⟩
  · exact po_isN hx (br_t rfl (po_badT hx (br_f po_10 ⟨rfl, po_rel0 K hu⟩)))
  · exact po_isB hb (br_f po_10 (po_fetch hb K fun sh S V L I T K => po_badF hb (br_t rfl ⟨po_16 hb, po_at (by omega), po_rel K⟩)))
theorem i_vc_write {k : Nat} {u : SX} {v : SY} (I : i_Rel k u v) (hk : k + 5 ≤ 2561) (v1 : Int32) (v2 : Int32) : wpX_write (fun r u' => wpY_write (fun r' v' => r' = r ∧ i_Rel (k + 5) u' v') v v1 v2) u v1 v2 := by
  obtain ⟨sh, tc, us, S, V, L, I, T, sv, ga, bl, ol, rfl, rfl, K, hu⟩ := I
  unfold wpX_write wpY_write
  dsimp only
  rcases po_blk v1 with hx | ⟨b, hb, rfl⟩
  · exact po_isN hx (br_t rfl (po_badT hx (br_f po_10 ⟨rfl, po_rel0 K hu⟩)))
  · exact po_isB hb (br_f po_10 (po_store hb K fun sh S V L I T K => po_badF hb (br_t rfl ⟨po_16 hb, nm_r (po_uc (by omega)) ⟨rfl, po_rel K⟩⟩)))
theorem i_vc_add {k : Nat} {u : SX} {v : SY} (I : i_Rel k u v) (hk : k + 5 ≤ 2561) (v1 : Int32) (v2 : Int32) : wpX_add (fun r u' => wpY_add (fun r' v' => r' = r ∧ i_Rel (k + 5) u' v') v v1 v2) u v1 v2 := by
  obtain ⟨sh, tc, us, S, V, L, I, T, sv, ga, bl, ol, rfl, rfl, K, hu⟩ := I
  unfold wpX_add wpY_add
  dsimp only
  rcases po_blk v1 with hx | ⟨b, hb, rfl⟩
  · exact po_isN hx (br_t rfl (po_badT hx (br_f po_10 ⟨rfl, po_rel0 K hu⟩)))
  · refine po_isB hb (br_f po_10 (po_fetch hb K fun sh S V L I T K => nm_e (po_store hb K fun sh S V L I T K => po_badF hb (br_t rfl ⟨po_16 hb, po_16 hb, nm_r (e' := upd bl b (bl b + v2)) ?_ ⟨po_16 hb, ?_, po_rel K⟩⟩))))
    · rw [po_uc (by omega), po_at (f := bl) (k := b) (by omega)]
    · exact (po_at (by omega)).trans pk_us
theorem i_vc_exchange {k : Nat} {u : SX} {v : SY} (I : i_Rel k u v) (hk : k + 5 ≤ 2561) (v1 : Int32) (v2 : Int32) : wpX_exchange (fun r u' => wpY_exchange (fun r' v' => r' = r ∧ i_Rel (k + 5) u' v') v v1 v2) u v1 v2 := by
  obtain ⟨sh, tc, us, S, V, L, I, T, sv, ga, bl, ol, rfl, rfl, K, hu⟩ := I
  unfold wpX_exchange wpY_exchange
  dsimp only
  rcases po_blk v1 with hx | ⟨b, hb, rfl⟩
  · exact po_isN hx (br_t rfl (po_badT hx (br_f po_10 ⟨rfl, po_rel0 K hu⟩)))
  · rcases po_blk v2 with hx | ⟨c, hc, rfl⟩
    · exact po_isB hb (br_f po_10 (po_isN hx (br_t rfl (po_badF hb (br_t rfl (po_badT hx (br_f po_10 ⟨rfl, po_rel0 K hu⟩)))))))
    · refine po_isB hb (br_f po_10 (po_isB hc (br_f po_10 (po_fetch hb K fun sh S V L I T K => po_fetch hc K fun sh S V L I T K => po_store hb K fun sh S V L I T K => po_store hc K fun sh S V L I T K => ?_))))
      refine po_badF hb (br_t rfl (po_badF hc (br_t rfl ⟨po_16 hb, nm_r (e' := bl b) (po_at (by omega)) ⟨po_16 hc, po_16 hb, nm_r (po_uv (by omega) (by omega)) ⟨po_16 hc, nm_r (po_uc (by omega)) ⟨rfl, po_rel K⟩⟩⟩⟩)))
theorem i_vc_copy {k : Nat} {u : SX} {v : SY} (I : i_Rel k u v) (hk : k + 5 ≤ 2561) (v1 : Int32) (v2 : Int32) : wpX_copy (fun r u' => wpY_copy (fun r' v' => r' = r ∧ i_Rel (k + 5) u' v') v v1 v2) u v1 v2 := by
  obtain ⟨sh, tc, us, S, V, L, I, T, sv, ga, bl, ol, rfl, rfl, K, hu⟩ := I
  unfold wpX_copy wpY_copy
  dsimp only
  rcases po_blk v1 with hx | ⟨b, hb, rfl⟩
  · exact po_isN hx (br_t rfl (po_badT hx (br_f po_10 ⟨rfl, po_rel0 K hu⟩)))
  · rcases po_blk v2 with hx | ⟨c, hc, rfl⟩
    · exact po_isB hb (br_f po_10 (po_isN hx (br_t rfl (po_badF hb (br_t rfl (po_badT hx (br_f po_10 ⟨rfl, po_rel0 K hu⟩)))))))
    · refine po_isB hb (br_f po_10 (po_isB hc (br_f po_10 (po_fetch hb K fun sh S V L I T K => po_store hc K fun sh S V L I T K => ?_))))
      exact po_badF hb (br_t rfl (po_badF hc (br_t rfl ⟨po_16 hb, po_16 hc, nm_r (po_uv (by omega) (by omega)) ⟨rfl, po_rel K⟩⟩)))
theorem i_vc_fill {k : Nat} {u : SX} {v : SY} (I : i_Rel k u v) (hk : k + 5 ≤ 2561) (v1 : Int32) (v2 : Int32) (v3 : Int32) (v4 : Int32) : wpX_fill (fun r u' => wpY_fill (fun r' v' => r' = r ∧ i_Rel (k + 5) u' v') v v1 v2 v3 v4) u v1 v2 v3 v4 := by
  obtain ⟨sh, tc, us, S, V, L, I, T, sv, ga, bl, ol, rfl, rfl, K, hu⟩ := I
  by_cases h1 : v2 < 1
  · exact br_t h1 (br_t h1 ⟨rfl, po_rel0 K hu⟩)
  by_cases h2 : v2 ≤ 16
  · by_cases h3 : v1 < 0
    · exact br_f h1 (br_t h2 (br_t h3 (br_f h1 (br_t h2 (br_t h3 ⟨rfl, po_rel0 K hu⟩)))))
    by_cases h4 : v1 ≤ 16 - v2
    · have n2 : ¬ v2 < 0 := fun z => h1 (Int32.lt_trans z (by decide))
      obtain ⟨c, hc, rfl⟩ := nI_of n2
      obtain ⟨b, hb, rfl⟩ := nI_of h3
      have c1 : ¬ c < 1 := fun z => h1 (nI_lt (b := 1) z (by decide))
      have c2 : c ≤ 16 := (nI_leI (b := 16) hc (by decide)).mp h2
      have e4 : (16 : Int32) - nI c = nI (16 - c) := pk_sub (a := 16) c2
      have c3 : b ≤ 16 - c := (nI_leI hb (by omega)).mp (e4 ▸ h4)
      refine br_f h1 (br_t h2 (br_f h3 (br_t h4 ⟨c + 1, po_fillL (c := c) (by omega) c 0 (by omega) bl sh tc S V L I T K (fun z => by omega) fun sh S V L I T K => ?_⟩)))
      exact br_f h1 (br_t h2 (br_f h3 (br_t h4 ⟨c + 1, po_yfillL (c := c) (by omega) c 0 (by omega) bl ⟨rfl, po_rel K⟩⟩)))
    · exact br_f h1 (br_t h2 (br_f h3 (br_f h4 (br_f h1 (br_t h2 (br_f h3 (br_f h4 ⟨rfl, po_rel0 K hu⟩)))))))
  · exact br_f h1 (br_f h2 (br_f h1 (br_f h2 ⟨rfl, po_rel0 K hu⟩)))
theorem i_vc_rotate {k : Nat} {u : SX} {v : SY} (I : i_Rel k u v) (hk : k + 5 ≤ 2561) (v1 : Int32) : wpX_rotate (fun r u' => wpY_rotate (fun r' v' => r' = r ∧ i_Rel (k + 5) u' v') v v1) u v1 := by
  obtain ⟨sh, tc, us, S, V, L, I, T, sv, ga, bl, ol, rfl, rfl, K, hu⟩ := I
  unfold wpX_rotate wpY_rotate
  dsimp only
  refine po_gather K fun sh S V L I T ga K hg => ⟨16 + 1, po_rotL hg 16 0 rfl bl sh 4 S V L I T K (fun z => by omega) fun sh S V L I T K => ?_⟩
  exact ⟨16 + 1, po_yoldL (fun ol ho => ⟨16 + 1, po_yrotL ho 16 0 rfl bl ⟨rfl, po_rel K⟩⟩) 16 0 rfl ol (fun j hj => by omega)⟩
theorem i_vc_sum {k : Nat} {u : SX} {v : SY} (I : i_Rel k u v) (hk : k + 5 ≤ 2561) : wpX_sum (fun r u' => wpY_sum (fun r' v' => r' = r ∧ i_Rel (k + 5) u' v') v) u := by
  obtain ⟨sh, tc, us, S, V, L, I, T, sv, ga, bl, ol, rfl, rfl, K, hu⟩ := I
  exact ⟨16 + 1, po_sumL 16 0 rfl 0 sh tc S V L I T K (fun z => by omega) fun sh S V L I T K => ⟨16 + 1, po_ysumL 16 0 rfl 0 ⟨rfl, po_rel K⟩⟩⟩
theorem i_vc_find {k : Nat} {u : SX} {v : SY} (I : i_Rel k u v) (hk : k + 5 ≤ 2561) (v1 : Int32) (v2 : Int32) : wpX_find (fun r u' => wpY_find (fun r' v' => r' = r ∧ i_Rel (k + 5) u' v') v v1 v2) u v1 v2 := by
  obtain ⟨sh, tc, us, S, V, L, I, T, sv, ga, bl, ol, rfl, rfl, K, hu⟩ := I
  unfold wpX_find wpY_find
  dsimp only
  rcases po_blk v2 with hx | ⟨b, hb, rfl⟩
  · exact po_isN hx (br_t rfl (po_badT hx (br_f po_10 ⟨rfl, po_rel0 K hu⟩)))
  · refine po_isB hb (br_f po_10 ⟨16 - b + 1, po_findL (16 - b) b (by omega) sh tc S V L I T K (fun z => by omega) fun sh S V L I T K => ?_⟩)
    exact po_badF hb (br_t rfl ⟨16 - b + 1, po_yfindL (16 - b) b (by omega) ⟨rfl, po_rel K⟩⟩)
theorem i_vc_below {k : Nat} {u : SX} {v : SY} (I : i_Rel k u v) (hk : k + 5 ≤ 2561) (v1 : Int32) : wpX_below (fun r u' => wpY_below (fun r' v' => r' = r ∧ i_Rel (k + 5) u' v') v v1) u v1 := by
  obtain ⟨sh, tc, us, S, V, L, I, T, sv, ga, bl, ol, rfl, rfl, K, hu⟩ := I
  unfold wpX_below wpY_below
  dsimp only
  refine po_gather K fun sh S V L I T ga K hg => po_cless (ga := ga) (po_yless rfl ⟨?_, po_rel K⟩)
  exact congrArg nI (po_cn_ext 16 fun j hj => by rw [po_ls, po_ls, hg j hj])
theorem i_vc_ranked {k : Nat} {u : SX} {v : SY} (I : i_Rel k u v) (hk : k + 5 ≤ 2561) (v1 : Int32) : wpX_ranked (fun r u' => wpY_ranked (fun r' v' => r' = r ∧ i_Rel (k + 5) u' v') v v1) u v1 := by
  obtain ⟨sh, tc, us, S, V, L, I, T, sv, ga, bl, ol, rfl, rfl, K, hu⟩ := I
  have e16 : nI 16 = 16 := rfl
  unfold wpX_ranked wpY_ranked
  dsimp only
  rcases po_blk v1 with hx | ⟨k, hk, rfl⟩
  · have q := po_badT (post := fun r => (r = 0 → ∃ n17 : Nat, wY_ranked_17 (fun r' v' => r' = 0 ∧ i_Rel (k + 5) (sh, tc, S, V, L, I, T, sv, ga) v') v1 1 bl ol sv n17 0) ∧ (¬ r = 0 → (0 : Int32) = 0 ∧ i_Rel (k + 5) (sh, tc, S, V, L, I, T, sv, ga) (us, bl, ol, sv))) (us := us) (bl := bl) (ol := ol) (sv := sv) hx (br_f po_10 ⟨rfl, po_rel0 K hu⟩)
    by_cases z : v1 < 0
    · exact br_t z q
    · rcases hx with a | a
      · exact absurd a z
      · exact br_f z (br_f (fun w => absurd (Int32.lt_of_le_of_lt a w) (by decide)) q)
  · refine br_f (nI_pos (by omega)) (br_t (nI_lt (b := 16) hk (by decide)) (po_gather K fun sh S V L I T ga K hg => nm_e ⟨16 + 1, po_rankL (ga := ga) hk (fun x i0 h0 e0 hx hm => ?_) 16 0 rfl _ 0 (.inl ⟨rfl, fun j hj => by omega⟩)⟩))
    have hl : ∀ x, po_cn (po_ls ga x) 16 = po_cn (po_ls bl x) 16 := fun x => po_cn_ext 16 fun j hj => by rw [po_ls, po_ls, hg j hj]
    rw [hg i0 h0] at e0
    rw [hl] at hx
    have hm2 : ∀ j, j < 16 → po_cn (po_ls bl (bl j)) 16 ≤ k → bl j ≤ x := by
      intro j hj c
      have := hm j hj
      rw [hg j hj, hl] at this
      exact this c
    exact po_badF hk (br_t rfl ⟨16 + 1, po_yrankL hk (fun i hi => po_rank bl k hk x i0 h0 e0 hx hm2 i hi) i0 h0 e0 ⟨rfl, po_rel K⟩ 16 0 rfl (by omega)⟩)
theorem i_vc_save {k : Nat} {u : SX} {v : SY} (I : i_Rel k u v) (hk : k + 5 ≤ 2561) (v1 : Int32) : wpX_save (fun r u' => wpY_save (fun r' v' => r' = r ∧ i_Rel (k + 5) u' v') v v1) u v1 := by
  obtain ⟨sh, tc, us, S, V, L, I, T, sv, ga, bl, ol, rfl, rfl, K, hu⟩ := I
  unfold wpX_save wpY_save
  dsimp only
  rcases po_snp v1 with hx | ⟨q, hq, rfl⟩
  · exact po_snN hx (br_t rfl (po_bsT hx (br_f po_10 ⟨rfl, po_rel0 K hu⟩)))
  · refine po_snB hq (br_f po_10 ⟨16 + 1, po_saveL hq 16 0 rfl sv sh tc S V L I T K (fun z => by omega) fun sh S V L I T K => ?_⟩)
    exact po_bsF hq (br_t rfl ⟨16 + 1, po_ysaveL hq 16 0 rfl sv ⟨rfl, po_rel K⟩⟩)
theorem i_vc_load {k : Nat} {u : SX} {v : SY} (I : i_Rel k u v) (hk : k + 5 ≤ 2561) (v1 : Int32) : wpX_load (fun r u' => wpY_load (fun r' v' => r' = r ∧ i_Rel (k + 5) u' v') v v1) u v1 := by
  obtain ⟨sh, tc, us, S, V, L, I, T, sv, ga, bl, ol, rfl, rfl, K, hu⟩ := I
  unfold wpX_load wpY_load
  dsimp only
  rcases po_snp v1 with hx | ⟨q, hq, rfl⟩
  · exact po_snN hx (br_t rfl (po_bsT hx (br_f po_10 ⟨rfl, po_rel0 K hu⟩)))
  · refine po_snB hq (br_f po_10 (po_un hq K fun sh S V L I T K => ⟨16 + 1, po_loadL hq 16 0 rfl bl sh 4 S V L I T K (fun z => by omega) fun sh S V L I T K => ?_⟩))
    exact po_bsF hq (br_t rfl (po_ydiff hq ⟨16 + 1, po_yloadL hq 16 0 rfl bl ⟨rfl, po_rel K⟩⟩))
theorem i_vc_differing {k : Nat} {u : SX} {v : SY} (I : i_Rel k u v) (hk : k + 5 ≤ 2561) (v1 : Int32) : wpX_differing (fun r u' => wpY_differing (fun r' v' => r' = r ∧ i_Rel (k + 5) u' v') v v1) u v1 := by
  obtain ⟨sh, tc, us, S, V, L, I, T, sv, ga, bl, ol, rfl, rfl, K, hu⟩ := I
  unfold wpX_differing
  dsimp only
  rcases po_snp v1 with hx | ⟨q, hq, rfl⟩
  · refine po_snN hx (br_t rfl ?_)
    unfold wpY_differing
    exact po_bsT hx (br_f po_10 ⟨rfl, po_rel0 K hu⟩)
  · exact po_snB hq (br_f po_10 (po_un hq K fun sh S V L I T K => po_ydiff hq ⟨rfl, po_rel K⟩))
theorem i_vc_audit {k : Nat} {u : SX} {v : SY} (I : i_Rel k u v) (hk : k + 5 ≤ 2561) : wpX_audit (fun r => wpY_audit (fun r' => r' = r ∧ i_Rel (k + 5) u v) v) u := by
  obtain ⟨sh, tc, us, S, V, L, I, T, sv, ga, bl, ol, rfl, rfl, K, hu⟩ := I
  exact ⟨16 + 1, po_audL K ⟨rfl, po_rel0 K hu⟩ 16 0 rfl⟩
theorem i_vc_touched {k : Nat} {u : SX} {v : SY} (I : i_Rel k u v) (hk : k + 5 ≤ 2561) : wpX_touched (fun r => wpY_touched (fun r' => r' = r ∧ i_Rel (k + 5) u v) v) u := by
  obtain ⟨sh, tc, us, S, V, L, I, T, sv, ga, bl, ol, rfl, rfl, K, hu⟩ := I
  rcases hu with ⟨rfl, rfl⟩ | ⟨rfl, rfl⟩
  · exact br_t rfl ⟨rfl, po_rel0 K (.inl ⟨rfl, rfl⟩)⟩
  · exact br_f po_10 ⟨rfl, po_rel0 K (.inr ⟨rfl, rfl⟩)⟩
