/-! the class, its public calls against the pure specs -/
theorem rg_PR_i {P x y : Nat} (hP : P ≤ 256) (h1 : 1 ≤ y) (h2 : x + y ≤ P) : rg_PR P (nI x) (nI y) := by
  unfold rg_PR
  rw [nI_toInt (by omega), nI_toInt (by omega)]
  omega
theorem rg_LN_i {P y : Nat} (hP : P ≤ 256) (h1 : 1 ≤ y) (h2 : y ≤ P) : rg_LN P (nI y) := by
  unfold rg_LN
  rw [nI_toInt (by omega)]
  omega
theorem rg_PG_i {P x : Nat} (hP : P ≤ 256) (h1 : x < P) : rg_PG P (nI x) := by
  unfold rg_PG
  rw [nI_toInt (by omega)]
  omega
def rg_QX (P R : Nat) (post : Int32 → St2 → Prop) : Int32 → (Nat → Int32) → (Nat → Int32) → Prop := fun r a' b' => ∀ D E, post r (nI P, nI R, a', b', D, E)
theorem rg_QX_s {P R : Nat} {post : Int32 → St2 → Prop} {r : Int32} {a b d e : Nat → Int32} (h : rg_QX P R post r a b) : post r (nI P, nI R, a, b, d, e) := h d e
theorem rx_mapNew {post : Int32 → St2 → Prop} {P R : Nat} {a b d e : Nat → Int32} {v1 v2 v3 v4 : Int32} (hP : P ≤ 256) (hR : R ≤ 32) (h : sp_mapNew P R a b v1 v2 v3 v4 (rg_QX P R post)) : wpX_mapNew post (nI P, nI R, a, b, d, e) v1 v2 v3 v4 := by
  unfold wpX_mapNew
  dsimp only
  refine rx_range hP v1 v2 (fun g => br_f rg_10 (rx_attr v2 v3 v4 (fun k => br_f rg_10 ?_) (fun k => br_t rfl (rg_QX_s (h.2 (fun z => k z.2)))))) (fun g => br_t rfl (rg_QX_s (h.2 (fun z => g z.1))))
  have h := h.1 ⟨g, k⟩
  obtain ⟨s, l, rfl, rfl, hl, hs⟩ := rg_PR_n g
  rw [nI_clamp (show s < 2 ^ 31 by omega), nI_clamp (show l < 2 ^ 31 by omega)] at h
  have hc := rg_cn_le (rg_mp a) s l
  refine rx_cnt hP hs (pk_le (rg_cn (rg_mp a) s l) 0 (fun z => ?_) (fun z => rg_QX_s (h.2 (by omega))))
  have h := h.1 (by omega)
  exact rx_fill hP hR hs (fun k D E => br_f rg_10 (h.1 k D E)) (fun k D E => br_t rfl (rg_QX_s (h.2 k)))
theorem rx_mapOver {post : Int32 → St2 → Prop} {P R : Nat} {a b d e : Nat → Int32} {v1 v2 v3 v4 : Int32} (hP : P ≤ 256) (hR : R ≤ 32) (h : sp_mapOver P R a b v1 v2 v3 v4 (rg_QX P R post)) : wpX_mapOver post (nI P, nI R, a, b, d, e) v1 v2 v3 v4 := by
  unfold wpX_mapOver
  dsimp only
  refine rx_range hP v1 v2 (fun g => br_f rg_10 (rx_attr v2 v3 v4 (fun k => br_f rg_10 ?_) (fun k => br_t rfl (rg_QX_s (h.2 (fun z => k z.2)))))) (fun g => br_t rfl (rg_QX_s (h.2 (fun z => g z.1))))
  have h := h.1 ⟨g, k⟩
  obtain ⟨s, l, rfl, rfl, hl, hs⟩ := rg_PR_n g
  rw [nI_clamp (show s < 2 ^ 31 by omega), nI_clamp (show l < 2 ^ 31 by omega)] at h
  refine rx_cnt hP hs ?_
  exact rx_fill hP hR hs (fun k D E => br_f rg_10 (h.1 k D E)) (fun k D E => br_t rfl (rg_QX_s (h.2 k)))
theorem rx_mapLow {post : Int32 → St2 → Prop} {P R : Nat} {a b d e : Nat → Int32} {v1 v2 v3 v4 : Int32} (hP : P ≤ 256) (hR : R ≤ 32) (h : sp_mapLow P R a b v1 v2 v3 v4 (rg_QX P R post)) : wpX_mapLow post (nI P, nI R, a, b, d, e) v1 v2 v3 v4 := by
  unfold wpX_mapLow
  dsimp only
  refine rx_attr v2 v3 v4 (fun k => br_f rg_10 (rx_fl hP (fun g => br_f (by decide) (rg_QX_s (h.2 (fun z => g z.1)))) (fun x y r ex ey hx hy1 hy2 hr => ?_))) (fun k => br_t rfl (rg_QX_s (h.2 (fun z => k z.2))))
  subst ex ey
  have h := h.1 ⟨⟨rg_PG_i hP hx, rg_LN_i hP hy1 hy2⟩, k⟩
  rw [nI_clamp (show x < 2 ^ 31 by omega), nI_clamp (show y < 2 ^ 31 by omega)] at h
  have h := h r hr
  rcases hr with ⟨t, g1, g2, g3, g4, rfl⟩ | ⟨g1, rfl⟩
  · have h := h.1 (rg_0le (by omega))
    rw [nI_clamp (show t < 2 ^ 31 by omega)] at h
    exact br_t (rg_0le (by omega)) (rx_fill hP hR g2 (fun k D E => br_f rg_10 (h.1 k D E)) (fun k D E => br_t rfl (rg_QX_s (h.2 k))))
  · exact br_f (by decide) (rg_QX_s (h.2 (by decide)))
theorem rx_mapHigh {post : Int32 → St2 → Prop} {P R : Nat} {a b d e : Nat → Int32} {v1 v2 v3 v4 : Int32} (hP : P ≤ 256) (hR : R ≤ 32) (h : sp_mapHigh P R a b v1 v2 v3 v4 (rg_QX P R post)) : wpX_mapHigh post (nI P, nI R, a, b, d, e) v1 v2 v3 v4 := by
  unfold wpX_mapHigh
  dsimp only
  refine rx_attr v2 v3 v4 (fun k => br_f rg_10 (rx_fh hP (fun g => br_f (by decide) (rg_QX_s (h.2 (fun z => g z.1)))) (fun x y r ex ey hx1 hx2 hy1 hy2 hr => ?_))) (fun k => br_t rfl (rg_QX_s (h.2 (fun z => k z.2))))
  subst ex ey
  have h := h.1 ⟨⟨rg_LN_i hP hx1 hx2, rg_LN_i hP hy1 hy2⟩, k⟩
  rw [nI_clamp (show x < 2 ^ 31 by omega), nI_clamp (show y < 2 ^ 31 by omega)] at h
  have h := h r hr
  rcases hr with ⟨t, g2, g3, g4, rfl⟩ | ⟨g1, rfl⟩
  · have h := h.1 (rg_0le (by omega))
    rw [nI_clamp (show t < 2 ^ 31 by omega)] at h
    exact br_t (rg_0le (by omega)) (rx_fill hP hR (by omega) (fun k D E => br_f rg_10 (h.1 k D E)) (fun k D E => br_t rfl (rg_QX_s (h.2 k))))
  · exact br_f (by decide) (rg_QX_s (h.2 (by decide)))
theorem rx_unmap {post : Int32 → St2 → Prop} {P R : Nat} {a b d e : Nat → Int32} {v1 v2 : Int32} (hP : P ≤ 256) (hR : R ≤ 32) (h : sp_unmap P R a b v1 v2 (rg_QX P R post)) : wpX_unmap post (nI P, nI R, a, b, d, e) v1 v2 := by
  unfold wpX_unmap
  dsimp only
  refine rx_range hP v1 v2 (fun g => br_f rg_10 ?_) (fun g => br_t rfl (rg_QX_s (h.2 g)))
  have h := h.1 g
  obtain ⟨s, l, rfl, rfl, hl, hs⟩ := rg_PR_n g
  rw [nI_clamp (show s < 2 ^ 31 by omega), nI_clamp (show l < 2 ^ 31 by omega)] at h
  refine rx_cnt hP hs ?_
  refine rx_start hP (fun D E hD hE => ?_)
  dsimp only
  refine rx_free hP hs (fun D' E' hD' hE' => ?_)
  dsimp only
  exact rx_keep hP hR (rg_F_on hD' hD) (rg_F_on hE' hE) (rg_up_on hs (fun _ _ => rfl)) (rg_up_on hs (fun _ _ => rfl)) (fun k => br_f rg_10 (h.1 k _ _)) (fun k => br_t rfl (rg_QX_s (h.2 k)))
theorem rx_protect {post : Int32 → St2 → Prop} {P R : Nat} {a b d e : Nat → Int32} {v1 v2 v3 : Int32} (hP : P ≤ 256) (hR : R ≤ 32) (h : sp_protect P R a b v1 v2 v3 (rg_QX P R post)) : wpX_protect post (nI P, nI R, a, b, d, e) v1 v2 v3 := by
  unfold wpX_protect
  dsimp only
  refine rx_range hP v1 v2 (fun g => br_f rg_10 (rx_prot v3 (fun k => br_f rg_10 ?_) (fun k => br_t rfl (rg_QX_s (h.2 (fun z => k z.2)))))) (fun g => br_t rfl (rg_QX_s (h.2 (fun z => g z.1))))
  have h := h.1 ⟨g, k⟩
  obtain ⟨s, l, rfl, rfl, hl, hs⟩ := rg_PR_n g
  rw [nI_clamp (show s < 2 ^ 31 by omega), nI_clamp (show l < 2 ^ 31 by omega)] at h
  have hc := rg_cn_le (rg_mp a) s l
  refine rx_cnt hP hs (pk_le l (rg_cn (rg_mp a) s l) (fun z => ?_) (fun z => rg_QX_s (h.1 z)))
  have h := h.2 (by omega)
  refine rx_start hP (fun D E hD hE => ?_)
  dsimp only
  refine pk_loop (fun n i (t : Nat × (Nat → Int32)) => wX_protect_41 post (nI s) (nI l) v3 (nI P) (nI R) n (nI t.1) (nI (s + i)) a b t.2 E) (fun i t => t.1 = rg_cn (fun j => decide (¬ a j = v3)) s i ∧ rg_F s (s + i) (fun _ => v3) D t.2) l 0 (0, D) (Nat.zero_le _) ⟨rfl, rg_F_0 _ _ _⟩
    (fun n t ht => pk_le (s + l) (s + l) (fun _ => ?_) (fun z => absurd z (by omega)) (hx := nI_add s l))
    (fun n i t hi ht hw => pk_le (s + l) (s + i) (fun z => absurd z (by omega)) (fun _ => ⟨pk_in (s + i) 256 (by omega), br_c (fun z => ?_) (fun z => ?_)⟩) (hx := nI_add s l))
  · rw [ht.1]
    exact rx_keep hP hR (rg_F_on ht.2 hD) hE (rg_up_on hs (fun _ _ => rfl)) (fun _ _ => rfl) (fun k => br_f rg_10 (h.1 k _ _)) (fun k => br_t rfl (rg_QX_s (h.2 k)))
  · rw [nI_clamp (show s + i < 2 ^ 31 by omega)] at z
    refine nm_r (nI_1 (s + i)) (hw (t.1, t.2) ⟨?_, rg_F_k ht.2 (Nat.le_add_right _ _) ?_⟩)
    · rw [rg_cn_f (decide_eq_false (fun y => y z))]; exact ht.1
    · exact ((ht.2.2 (s + i) (by omega)).trans (hD (s + i) (by omega))).trans z
  · rw [nI_clamp (show s + i < 2 ^ 31 by omega)] at z
    refine ⟨pk_in (s + i) 256 (by omega), nm_e (nm_r (nI_1 t.1) (nm_r (nI_1 (s + i)) (hw (t.1 + 1, _) ⟨?_, rg_F_s ht.2 (Nat.le_add_right _ _) (nI_clamp (by omega)) rfl⟩)))⟩
    rw [rg_cn_t (decide_eq_true z), ht.1]
theorem rx_move {post : Int32 → St2 → Prop} {P R : Nat} {a b d e : Nat → Int32} {v1 v2 v3 : Int32} (hP : P ≤ 256) (hR : R ≤ 32) (h : sp_move P R a b v1 v2 v3 (rg_QX P R post)) : wpX_move post (nI P, nI R, a, b, d, e) v1 v2 v3 := by
  unfold wpX_move
  dsimp only
  refine rx_range hP v1 v2 (fun g => br_f rg_10 (rx_range hP v3 v2 (fun k => br_f rg_10 ?_) (fun k => br_t rfl (rg_QX_s (h.2 (fun z => k z.2)))))) (fun g => br_t rfl (rg_QX_s (h.2 (fun z => g z.1))))
  have h := h.1 ⟨g, k⟩
  obtain ⟨s, l, rfl, rfl, hl, hs⟩ := rg_PR_n g
  obtain ⟨t, l', rfl, el, hl', ht⟩ := rg_PR_n k
  have el : l = l' := (nI_eq (by omega) (by omega)).mp el
  subst el
  rw [nI_clamp (show s < 2 ^ 31 by omega), nI_clamp (show l < 2 ^ 31 by omega), nI_clamp (show t < 2 ^ 31 by omega)] at h
  have hc := rg_cn_le (rg_mp a) s l
  refine rx_cnt hP hs (pk_le l (rg_cn (rg_mp a) s l) (fun z => ?_) (fun z => rg_QX_s (h.1 z)))
  have h := h.2 (by omega)
  refine rx_out hP hs ht ?_
  exact rx_mv hP hR hs ht (fun k D E => br_f rg_10 (h.1 k D E)) (fun k D E => br_t rfl (rg_QX_s (h.2 k)))
theorem rx_moveFree {post : Int32 → St2 → Prop} {P R : Nat} {a b d e : Nat → Int32} {v1 v2 v3 : Int32} (hP : P ≤ 256) (hR : R ≤ 32) (h : sp_moveFree P R a b v1 v2 v3 (rg_QX P R post)) : wpX_moveFree post (nI P, nI R, a, b, d, e) v1 v2 v3 := by
  unfold wpX_moveFree
  dsimp only
  refine rx_range hP v1 v2 (fun g => br_f rg_10 (rx_isPage hP v3 (fun k => br_f rg_10 ?_) (fun k => br_t rfl (rg_QX_s (h.2 (fun z => k z.2)))))) (fun g => br_t rfl (rg_QX_s (h.2 (fun z => g z.1))))
  have h := h.1 ⟨g, k⟩
  obtain ⟨s, l, rfl, rfl, hl, hs⟩ := rg_PR_n g
  rw [nI_clamp (show s < 2 ^ 31 by omega), nI_clamp (show l < 2 ^ 31 by omega)] at h
  have hc := rg_cn_le (rg_mp a) s l
  refine rx_cnt hP hs (pk_le l (rg_cn (rg_mp a) s l) (fun z => ?_) (fun z => rg_QX_s (h.1 z)))
  have h := h.2 (by omega)
  refine rx_fl hP (fun g => absurd ⟨k, rg_LN_i hP hl (by omega)⟩ g) (fun x y r ex ey hx hy1 hy2 hr => ?_)
  have ey : l = y := (nI_eq (by omega) (by omega)).mp ey
  subst ex ey
  rw [nI_clamp (show x < 2 ^ 31 by omega)] at h
  have h := h r hr
  rcases hr with ⟨t, g1, g2, g3, g4, rfl⟩ | ⟨g1, rfl⟩
  · have h := h.1 (rg_0le (by omega))
    rw [nI_clamp (show t < 2 ^ 31 by omega)] at h
    exact br_t (rg_0le (by omega)) (rx_mv hP hR hs g2 (fun k D E => br_f rg_10 (h.1 k D E)) (fun k D E => br_t rfl (rg_QX_s (h.2 k))))
  · exact br_f (by decide) (rg_QX_s (h.2 (by decide)))
theorem rx_protOf {post : Int32 → Prop} {P : Nat} {f v : Int32} {a b d e : Nat → Int32} (hP : P ≤ 256) (h1 : ∀ x, v = nI x → x < P → post (a x)) (h0 : ¬ rg_PG P v → post (-1)) : wpX_protOf post (nI P, f, a, b, d, e) v := by
  unfold wpX_protOf
  dsimp only
  refine rx_isPage hP v (fun g => br_f rg_10 ?_) (fun g => br_t rfl (h0 g))
  obtain ⟨x, rfl, hx⟩ := rg_PG_n g
  refine ⟨pk_in x 256 (by omega), ?_⟩
  rw [nI_clamp (show x < 2 ^ 31 by omega)]
  exact h1 x rfl hx
theorem rx_backingOf {post : Int32 → Prop} {P : Nat} {f v : Int32} {a b d e : Nat → Int32} (hP : P ≤ 256) (h1 : ∀ x, v = nI x → x < P → post (b x)) (h0 : ¬ rg_PG P v → post (-1)) : wpX_backingOf post (nI P, f, a, b, d, e) v := by
  unfold wpX_backingOf
  dsimp only
  refine rx_isPage hP v (fun g => br_f rg_10 ?_) (fun g => br_t rfl (h0 g))
  obtain ⟨x, rfl, hx⟩ := rg_PG_n g
  refine ⟨pk_in x 256 (by omega), ?_⟩
  rw [nI_clamp (show x < 2 ^ 31 by omega)]
  exact h1 x rfl hx
theorem rx_rc {post : Int32 → Prop} {P : Nat} {f : Int32} {a b d e : Nat → Int32} (hP : P ≤ 256) (h : post (nI (rg_cn (rg_st a b) 0 P))) : wpX_regionCount post (nI P, f, a, b, d, e) := by
  unfold wpX_regionCount
  dsimp only
  exact rx_ctA hP h
