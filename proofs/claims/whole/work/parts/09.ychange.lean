/-! the reference, changing -/
theorem ry_rem {post : SY → Prop} {P : Nat} {f : Int32} {a b m p c om op oc : Nat → Int32} (hP : P ≤ 256) (hr : rg_R P a b m p c) (h : ∀ om op oc, rg_eq P om m → rg_eq P op p → rg_eq P oc c → post (nI P, f, m, p, c, om, op, oc)) : wpY_remember post (nI P, f, m, p, c, om, op, oc) :=
  pk_loop (fun n i (t : (Nat → Int32) × (Nat → Int32) × (Nat → Int32)) => wY_remember_2 post (nI P) f n (nI i) m p c t.1 t.2.1 t.2.2) (fun i t => rg_F 0 i m om t.1 ∧ rg_F 0 i p op t.2.1 ∧ rg_F 0 i c oc t.2.2) P 0 (om, op, oc) (Nat.zero_le _) ⟨rg_F_0 _ _ _, rg_F_0 _ _ _, rg_F_0 _ _ _⟩
    (fun n t ht => pk_le P P (fun _ => h _ _ _ (rg_F_eq ht.1) (rg_F_eq ht.2.1) (rg_F_eq ht.2.2)) (fun z => absurd z (by omega)))
    (fun n i t hi ht hw => pk_le P i (fun z => absurd z (by omega)) (fun _ => ⟨pk_in i 256 (by omega), pk_in i 256 (by omega), nm_e ⟨pk_in i 256 (by omega), pk_in i 256 (by omega), nm_e ⟨pk_in i 256 (by omega), pk_in i 256 (by omega), nm_e (nm_r (nI_1 i) (hw (_, _, _) ⟨rg_F_s ht.1 (Nat.zero_le _) (nI_clamp (by omega)) (by rw [nI_clamp (by omega), rg_nb (rg_R_01 hr hi)]), rg_F_s ht.2.1 (Nat.zero_le _) (nI_clamp (by omega)) (by rw [nI_clamp (by omega)]), rg_F_s ht.2.2 (Nat.zero_le _) (nI_clamp (by omega)) (by rw [nI_clamp (by omega)])⟩))⟩⟩⟩))
def rg_QY (P R : Nat) (post : Int32 → SY → Prop) : Int32 → (Nat → Int32) → (Nat → Int32) → Prop := fun r a' b' => ∀ m p c om op oc, rg_R P a' b' m p c → post r (nI P, nI R, m, p, c, om, op, oc)
theorem ry_set {post : Int32 → SY → Prop} {P R : Nat} {r : Int32} {a b a' b' m p c om op oc : Nat → Int32} (hP : P ≤ 256) (hR : R ≤ 32) (hn : rg_R P a' b' m p c) (ho : rg_R P a b om op oc) (h : rg_gate P R a b a' b' r (rg_QY P R post)) : wpY_settle post (nI P, nI R, m, p, c, om, op, oc) r := by
  unfold wpY_settle
  dsimp only
  refine ry_rc hP hn ?_
  have hle := rg_cn_le (rg_st a' b') 0 P
  refine pk_lt R (rg_cn (rg_st a' b') 0 P) (fun z => ?_) (fun z => h.1 z _ _ _ _ _ _ hn)
  have h := h.2 (fun y => by unfold rg_ok at y; omega)
  exact pk_loop (fun n i (t : (Nat → Int32) × (Nat → Int32) × (Nat → Int32)) => wY_settle_15 post (nI P) (nI R) n (nI i) t.1 t.2.1 t.2.2 om op oc) (fun i t => rg_F 0 i om m t.1 ∧ rg_F 0 i op p t.2.1 ∧ rg_F 0 i oc c t.2.2) P 0 (m, p, c) (Nat.zero_le _) ⟨rg_F_0 _ _ _, rg_F_0 _ _ _, rg_F_0 _ _ _⟩
    (fun n t ht => pk_le P P (fun _ => h _ _ _ _ _ _ (rg_R_cy ho (rg_F_eq ht.1) (rg_F_eq ht.2.1) (rg_F_eq ht.2.2))) (fun z => absurd z (by omega)))
    (fun n i t hi ht hw => pk_le P i (fun z => absurd z (by omega)) (fun _ => ⟨pk_in i 256 (by omega), pk_in i 256 (by omega), nm_e ⟨pk_in i 256 (by omega), pk_in i 256 (by omega), nm_e ⟨pk_in i 256 (by omega), pk_in i 256 (by omega), nm_e (nm_r (nI_1 i) (hw (_, _, _) ⟨rg_F_s ht.1 (Nat.zero_le _) (nI_clamp (by omega)) (by rw [nI_clamp (by omega), rg_nb (rg_R_01 ho hi)]), rg_F_s ht.2.1 (Nat.zero_le _) (nI_clamp (by omega)) (by rw [nI_clamp (by omega)]), rg_F_s ht.2.2 (Nat.zero_le _) (nI_clamp (by omega)) (by rw [nI_clamp (by omega)])⟩))⟩⟩⟩))
theorem rg_bk_ok {s j l : Nat} {q v : Int32} (h : rg_PA (nI l) q v) (hl : l ≤ 256) (h1 : s ≤ j) (h2 : j < s + l) : rg_BK (rg_bk s v j) := by
  unfold rg_bk
  by_cases z : v = 0
  · rw [if_pos z]; exact Or.inl rfl
  · rw [if_neg z]
    rcases h.2 with h | ⟨h3, h4, h5⟩
    · exact absurd h z
    · obtain ⟨n, hn, rfl, fn⟩ := rg_nat (x := v) (by omega)
      have hl' : (nI l).toInt = l := nI_toInt (by omega)
      right
      rw [nI_add, nI_toInt (by omega)]
      omega
theorem rg_R_fill {P s l : Nat} {q v : Int32} {a b m p c m' p' c' : Nat → Int32} (hP : P ≤ 256) (hs : s + l ≤ P) (hr : rg_R P a b m p c) (hA : rg_PA (nI l) q v) (hm : rg_F s (s + l) (fun _ => 1) m m') (hp : rg_F s (s + l) (fun _ => q) p p') (hc : rg_F s (s + l) (rg_bk s v) c c') : rg_R P (rg_on s l (fun _ => q) a) (rg_on s l (rg_bk s v) b) m' p' c' := by
  intro j hj
  by_cases e : s ≤ j ∧ j < s + l
  · rw [rg_on_t e, rg_on_t e, hm.1 j e.1 e.2, hp.1 j e.1 e.2, hc.1 j e.1 e.2]
    exact Or.inr ⟨rfl, rfl, rfl, rg_PT_6 hA.1, rg_bk_ok hA (by omega) e.1 e.2⟩
  · rw [rg_on_f e, rg_on_f e, hm.2 j e, hp.2 j e, hc.2 j e]
    exact hr j hj
theorem rg_R_free {P s l : Nat} {a b m p c m' : Nat → Int32} (hr : rg_R P a b m p c) (hm : rg_F s (s + l) (fun _ => 0) m m') : rg_R P (rg_on s l (fun _ => -6) a) (rg_on s l (fun _ => -6) b) m' p c := by
  intro j hj
  by_cases e : s ≤ j ∧ j < s + l
  · rw [rg_on_t e, rg_on_t e, hm.1 j e.1 e.2]
    exact Or.inl ⟨rfl, rfl, rfl⟩
  · rw [rg_on_f e, rg_on_f e, hm.2 j e]
    exact hr j hj
theorem rg_all {a : Nat → Int32} {s l : Nat} (h : ¬ rg_cn (rg_mp a) s l < l) {j : Nat} (h1 : s ≤ j) (h2 : j < s + l) : ¬ a j = -6 := by
  have := rg_cn_all h (j - s) (by omega)
  rw [show s + (j - s) = j from by omega] at this
  exact rg_mp_t.mp this
theorem rg_R_prot {P s l : Nat} {q : Int32} {a b m p c p' : Nat → Int32} (hr : rg_R P a b m p c) (hq : rg_PT q) (ha : ¬ rg_cn (rg_mp a) s l < l) (hp : rg_F s (s + l) (fun _ => q) p p') : rg_R P (rg_on s l (fun _ => q) a) b m p' c := by
  intro j hj
  by_cases e : s ≤ j ∧ j < s + l
  · rw [rg_on_t e, hp.1 j e.1 e.2]
    rcases hr j hj with ⟨e1, e2, e3⟩ | ⟨e1, e2, e3, e4, e5⟩
    · exact absurd e2 (rg_all ha e.1 e.2)
    · exact Or.inr ⟨e1, rfl, e3, rg_PT_6 hq, e5⟩
  · rw [rg_on_f e, hp.2 j e]
    exact hr j hj
theorem rg_R_mv {P s l t : Nat} {a b m p c op oc m1 m' p' c' : Nat → Int32} (hs : s + l ≤ P) (hr : rg_R P a b m p c) (ha : ¬ rg_cn (rg_mp a) s l < l) (ho : rg_eq P op p) (hq : rg_eq P oc c) (h1 : rg_F s (s + l) (fun _ => 0) m m1) (hm : rg_F t (t + l) (fun _ => 1) m1 m') (hp : rg_F t (t + l) (fun j => op (s + (j - t))) p p') (hc : rg_F t (t + l) (fun j => oc (s + (j - t))) c c') : rg_R P (rg_mv s l t a) (rg_mv s l t b) m' p' c' := by
  intro j hj
  unfold rg_mv
  by_cases e : t ≤ j ∧ j < t + l
  · rw [rg_on_t e, rg_on_t e, hm.1 j e.1 e.2, hp.1 j e.1 e.2, hc.1 j e.1 e.2]
    dsimp only
    rw [ho _ (by omega), hq _ (by omega)]
    rcases hr (s + (j - t)) (by omega) with ⟨e1, e2, e3⟩ | ⟨e1, e2, e3, e4, e5⟩
    · exact absurd e2 (rg_all ha (by omega) (by omega))
    · exact Or.inr ⟨rfl, e2, e3, e4, e5⟩
  · rw [rg_on_f e, rg_on_f e, hm.2 j e, hp.2 j e, hc.2 j e]
    exact rg_R_free hr h1 j hj
theorem ry_fill {post : Int32 → SY → Prop} {P R s l : Nat} {q v r : Int32} {a b m p c om op oc : Nat → Int32} (hP : P ≤ 256) (hR : R ≤ 32) (hs : s + l ≤ P) (hr : rg_R P a b m p c) (hA : rg_PA (nI l) q v) (h : sp_fill P R s l q v r a b (rg_QY P R post)) : wpY_fill post (nI P, nI R, m, p, c, om, op, oc) (nI s) (nI l) q v r := by
  unfold wpY_fill
  dsimp only
  refine ry_rem hP hr (fun om op oc hm hp hc => ?_)
  dsimp only
  exact pk_loop (fun n i (t : (Nat → Int32) × (Nat → Int32) × (Nat → Int32)) => wY_fill_7 post (nI s) (nI l) q v r (nI P) (nI R) n (nI i) t.1 t.2.1 t.2.2 om op oc) (fun i t => rg_F s (s + i) (fun _ => 1) m t.1 ∧ rg_F s (s + i) (fun _ => q) p t.2.1 ∧ rg_F s (s + i) (rg_bk s v) c t.2.2) l 0 (m, p, c) (Nat.zero_le _) ⟨rg_F_0 _ _ _, rg_F_0 _ _ _, rg_F_0 _ _ _⟩
    (fun n t ht => pk_le l l (fun _ => ry_set hP hR (rg_R_fill hP hs hr hA ht.1 ht.2.1 ht.2.2) (rg_R_cy hr hm hp hc) h) (fun z => absurd z (by omega)))
    (fun n i t hi ht hw => pk_le l i (fun z => absurd z (by omega)) (fun _ => ⟨pk_in (s + i) 256 (by omega) (hx := nI_add s i), nm_e ⟨pk_in (s + i) 256 (by omega) (hx := nI_add s i), nm_e (br_c
      (fun z => ⟨pk_in (s + i) 256 (by omega) (hx := nI_add s i), nm_e (nm_r (nI_1 i) (hw (_, _, _) ⟨rg_F_s ht.1 (Nat.le_add_right _ _) (pk_cl (s + i) (nI_add s i)) (rg_nb (Or.inr rfl)), rg_F_s ht.2.1 (Nat.le_add_right _ _) (pk_cl (s + i) (nI_add s i)) rfl, rg_F_s ht.2.2 (Nat.le_add_right _ _) (pk_cl (s + i) (nI_add s i)) (rg_bk_0 z)⟩))⟩)
      (fun z => ⟨pk_in (s + i) 256 (by omega) (hx := nI_add s i), nm_e (nm_r (nI_1 i) (hw (_, _, _) ⟨rg_F_s ht.1 (Nat.le_add_right _ _) (pk_cl (s + i) (nI_add s i)) (rg_nb (Or.inr rfl)), rg_F_s ht.2.1 (Nat.le_add_right _ _) (pk_cl (s + i) (nI_add s i)) rfl, rg_F_s ht.2.2 (Nat.le_add_right _ _) (pk_cl (s + i) (nI_add s i)) (rg_bk_1 z)⟩))⟩))⟩⟩))
theorem rg_QY_s {P R : Nat} {post : Int32 → SY → Prop} {r : Int32} {a b m p c om op oc : Nat → Int32} (h : rg_QY P R post r a b) (hr : rg_R P a b m p c) : post r (nI P, nI R, m, p, c, om, op, oc) := h _ _ _ _ _ _ hr
theorem ry_mapNew {post : Int32 → SY → Prop} {P R : Nat} {a b m p c om op oc : Nat → Int32} {v1 v2 v3 v4 : Int32} (hP : P ≤ 256) (hR : R ≤ 32) (hr : rg_R P a b m p c) (h : sp_mapNew P R a b v1 v2 v3 v4 (rg_QY P R post)) : wpY_mapNew post (nI P, nI R, m, p, c, om, op, oc) v1 v2 v3 v4 := by
  unfold wpY_mapNew
  dsimp only
  refine ry_range hP v1 v2 (fun g => br_f rg_10 (ry_attr hP v2 v3 v4 ⟨g.2.1, by have := g.2.2; have := g.1; omega⟩ (fun k => br_f rg_10 ?_) (fun k => br_t rfl (rg_QY_s (h.2 (fun z => k z.2)) hr)))) (fun g => br_t rfl (rg_QY_s (h.2 (fun z => g z.1)) hr))
  have h := h.1 ⟨g, k⟩
  obtain ⟨s, l, rfl, rfl, hl, hs⟩ := rg_PR_n g
  rw [nI_clamp (show s < 2 ^ 31 by omega), nI_clamp (show l < 2 ^ 31 by omega)] at h
  have hc := rg_cn_le (rg_mp a) s l
  exact ry_cnt hP hr hs (pk_le (rg_cn (rg_mp a) s l) 0 (fun z => ry_fill hP hR hs hr k (h.1 (by omega))) (fun z => rg_QY_s (h.2 (by omega)) hr))
theorem ry_mapOver {post : Int32 → SY → Prop} {P R : Nat} {a b m p c om op oc : Nat → Int32} {v1 v2 v3 v4 : Int32} (hP : P ≤ 256) (hR : R ≤ 32) (hr : rg_R P a b m p c) (h : sp_mapOver P R a b v1 v2 v3 v4 (rg_QY P R post)) : wpY_mapOver post (nI P, nI R, m, p, c, om, op, oc) v1 v2 v3 v4 := by
  unfold wpY_mapOver
  dsimp only
  refine ry_range hP v1 v2 (fun g => br_f rg_10 (ry_attr hP v2 v3 v4 ⟨g.2.1, by have := g.2.2; have := g.1; omega⟩ (fun k => br_f rg_10 ?_) (fun k => br_t rfl (rg_QY_s (h.2 (fun z => k z.2)) hr)))) (fun g => br_t rfl (rg_QY_s (h.2 (fun z => g z.1)) hr))
  have h := h.1 ⟨g, k⟩
  obtain ⟨s, l, rfl, rfl, hl, hs⟩ := rg_PR_n g
  rw [nI_clamp (show s < 2 ^ 31 by omega), nI_clamp (show l < 2 ^ 31 by omega)] at h
  exact ry_cnt hP hr hs (ry_fill hP hR hs hr k h)
theorem ry_mapLow {post : Int32 → SY → Prop} {P R : Nat} {a b m p c om op oc : Nat → Int32} {v1 v2 v3 v4 : Int32} (hP : P ≤ 256) (hR : R ≤ 32) (hr : rg_R P a b m p c) (h : sp_mapLow P R a b v1 v2 v3 v4 (rg_QY P R post)) : wpY_mapLow post (nI P, nI R, m, p, c, om, op, oc) v1 v2 v3 v4 := by
  by_cases g : rg_PG P v1 ∧ rg_LN P v2
  · obtain ⟨g1, g2⟩ := g
    have hh := fun k => h.1 ⟨⟨g1, g2⟩, k⟩
    have hb := fun k => h.2 k
    obtain ⟨x, rfl, hx⟩ := rg_PG_n g1
    obtain ⟨y, rfl, hy1, hy2⟩ := rg_LN_n g2
    unfold wpY_mapLow
    dsimp only
    refine br_f (nI_pos (by omega)) (pk_le P x (fun z => absurd z (by omega)) (fun _ => br_f (nI_nlt (b := 1) (by omega) (by omega)) (br_t (nI_le hy2 (by omega)) ?_)))
    refine ry_attr hP _ v3 v4 g2 (fun k => br_f rg_10 (ry_fl hP hr hx hy1 hy2 (fun r hF => ?_))) (fun k => br_t rfl (rg_QY_s (hb (fun z => k z.2)) hr))
    have h := hh k
    rw [nI_clamp (show x < 2 ^ 31 by omega), nI_clamp (show y < 2 ^ 31 by omega)] at h
    have h := h r hF
    rcases hF with ⟨t, f1, f2, f3, f4, rfl⟩ | ⟨f1, rfl⟩
    · have h := h.1 (rg_0le (by omega))
      rw [nI_clamp (show t < 2 ^ 31 by omega)] at h
      exact br_t (rg_0le (by omega)) (ry_fill hP hR f2 hr k h)
    · exact br_f (by decide) (rg_QY_s (h.2 (by decide)) hr)
  · have hb := rg_QY_s (om := om) (op := op) (oc := oc) (h.2 (fun z => g z.1)) hr
    refine br_c (fun _ => hb) (fun k1 => br_c (fun _ => hb) (fun k2 => br_c (fun _ => hb) (fun k3 => br_c (fun k4 => absurd ?_ g) (fun _ => hb))))
    rw [Int32.lt_iff_toInt_lt, rg_i0] at k1
    rw [Int32.le_iff_toInt_le, nI_toInt (by omega)] at k2
    rw [Int32.lt_iff_toInt_lt, rg_i1] at k3
    rw [Int32.le_iff_toInt_le, nI_toInt (by omega)] at k4
    exact ⟨⟨by omega, by omega⟩, ⟨by omega, by omega⟩⟩
theorem ry_mapHigh {post : Int32 → SY → Prop} {P R : Nat} {a b m p c om op oc : Nat → Int32} {v1 v2 v3 v4 : Int32} (hP : P ≤ 256) (hR : R ≤ 32) (hr : rg_R P a b m p c) (h : sp_mapHigh P R a b v1 v2 v3 v4 (rg_QY P R post)) : wpY_mapHigh post (nI P, nI R, m, p, c, om, op, oc) v1 v2 v3 v4 := by
  by_cases g : rg_LN P v1 ∧ rg_LN P v2
  · obtain ⟨g1, g2⟩ := g
    have hh := fun k => h.1 ⟨⟨g1, g2⟩, k⟩
    have hb := fun k => h.2 k
    obtain ⟨x, rfl, hx1, hx2⟩ := rg_LN_n g1
    obtain ⟨y, rfl, hy1, hy2⟩ := rg_LN_n g2
    unfold wpY_mapHigh
    dsimp only
    refine br_f (nI_nlt (b := 1) (by omega) (by omega)) (pk_lt P x (fun z => absurd z (by omega)) (fun _ => br_f (nI_nlt (b := 1) (by omega) (by omega)) (br_t (nI_le hy2 (by omega)) ?_)))
    refine ry_attr hP _ v3 v4 g2 (fun k => br_f rg_10 (ry_fh hP hr hx1 hx2 hy1 hy2 (fun r hF => ?_))) (fun k => br_t rfl (rg_QY_s (hb (fun z => k z.2)) hr))
    have h := hh k
    rw [nI_clamp (show x < 2 ^ 31 by omega), nI_clamp (show y < 2 ^ 31 by omega)] at h
    have h := h r hF
    rcases hF with ⟨t, f2, f3, f4, rfl⟩ | ⟨f1, rfl⟩
    · have h := h.1 (rg_0le (by omega))
      rw [nI_clamp (show t < 2 ^ 31 by omega)] at h
      exact br_t (rg_0le (by omega)) (ry_fill hP hR (by omega) hr k h)
    · exact br_f (by decide) (rg_QY_s (h.2 (by decide)) hr)
  · have hb := rg_QY_s (om := om) (op := op) (oc := oc) (h.2 (fun z => g z.1)) hr
    refine br_c (fun _ => hb) (fun k1 => br_c (fun _ => hb) (fun k2 => br_c (fun _ => hb) (fun k3 => br_c (fun k4 => absurd ?_ g) (fun _ => hb))))
    rw [Int32.lt_iff_toInt_lt, rg_i1] at k1
    rw [Int32.lt_iff_toInt_lt, nI_toInt (by omega)] at k2
    rw [Int32.lt_iff_toInt_lt, rg_i1] at k3
    rw [Int32.le_iff_toInt_le, nI_toInt (by omega)] at k4
    exact ⟨⟨by omega, by omega⟩, ⟨by omega, by omega⟩⟩
theorem ry_unmap {post : Int32 → SY → Prop} {P R : Nat} {a b m p c om op oc : Nat → Int32} {v1 v2 : Int32} (hP : P ≤ 256) (hR : R ≤ 32) (hr : rg_R P a b m p c) (h : sp_unmap P R a b v1 v2 (rg_QY P R post)) : wpY_unmap post (nI P, nI R, m, p, c, om, op, oc) v1 v2 := by
  unfold wpY_unmap
  dsimp only
  refine ry_range hP v1 v2 (fun g => br_f rg_10 ?_) (fun g => br_t rfl (rg_QY_s (h.2 g) hr))
  have h := h.1 g
  obtain ⟨s, l, rfl, rfl, hl, hs⟩ := rg_PR_n g
  rw [nI_clamp (show s < 2 ^ 31 by omega), nI_clamp (show l < 2 ^ 31 by omega)] at h
  refine ry_cnt hP hr hs (ry_rem hP hr (fun om op oc hm hp hc => ?_))
  dsimp only
  exact pk_loop (fun n i (t : Nat → Int32) => wY_unmap_25 post (nI s) (nI l) (nI (rg_cn (rg_mp a) s l)) (nI P) (nI R) n (nI i) t p c om op oc) (fun i t => rg_F s (s + i) (fun _ => 0) m t) l 0 m (Nat.zero_le _) (rg_F_0 _ _ _)
    (fun n t ht => pk_le l l (fun _ => ry_set hP hR (rg_R_free hr ht) (rg_R_cy hr hm hp hc) h) (fun z => absurd z (by omega)))
    (fun n i t hi ht hw => pk_le l i (fun z => absurd z (by omega)) (fun _ => ⟨pk_in (s + i) 256 (by omega) (hx := nI_add s i), nm_e (nm_r (nI_1 i) (hw _ (rg_F_s ht (Nat.le_add_right _ _) (pk_cl (s + i) (nI_add s i)) (rg_nb (Or.inl rfl)))))⟩))
theorem ry_protect {post : Int32 → SY → Prop} {P R : Nat} {a b m p c om op oc : Nat → Int32} {v1 v2 v3 : Int32} (hP : P ≤ 256) (hR : R ≤ 32) (hr : rg_R P a b m p c) (h : sp_protect P R a b v1 v2 v3 (rg_QY P R post)) : wpY_protect post (nI P, nI R, m, p, c, om, op, oc) v1 v2 v3 := by
  unfold wpY_protect
  dsimp only
  refine ry_range hP v1 v2 (fun g => br_f rg_10 (br_c (fun k => rg_QY_s (h.2 (fun z => ?_)) hr) (fun k => br_c (fun k2 => ?_) (fun k2 => rg_QY_s (h.2 (fun z => ?_)) hr)))) (fun g => br_t rfl (rg_QY_s (h.2 (fun z => g z.1)) hr))
  · rw [Int32.lt_iff_toInt_lt, rg_i0] at k
    have := z.2.1
    omega
  · rw [Int32.lt_iff_toInt_lt, rg_i0] at k
    rw [Int32.le_iff_toInt_le, rg_i7] at k2
    have hq : rg_PT v3 := ⟨by omega, by omega⟩
    have h := h.1 ⟨g, hq⟩
    obtain ⟨s, l, rfl, rfl, hl, hs⟩ := rg_PR_n g
    rw [nI_clamp (show s < 2 ^ 31 by omega), nI_clamp (show l < 2 ^ 31 by omega)] at h
    have hle := rg_cn_le (rg_mp a) s l
    refine ry_cnt hP hr hs (pk_le l (rg_cn (rg_mp a) s l) (fun z => ?_) (fun z => rg_QY_s (h.1 z) hr))
    have hA : ¬ rg_cn (rg_mp a) s l < l := by omega
    have h := h.2 hA
    refine ry_rem hP hr (fun om op oc hm hp hc => ?_)
    dsimp only
    refine pk_loop (fun n i (t : Nat × (Nat → Int32)) => wY_protect_44 post (nI s) (nI l) v3 (nI P) (nI R) n (nI t.1) (nI i) m t.2 c om op oc) (fun i t => t.1 = rg_cn (fun j => decide (¬ a j = v3)) s i ∧ rg_F s (s + i) (fun _ => v3) p t.2) l 0 (0, p) (Nat.zero_le _) ⟨rfl, rg_F_0 _ _ _⟩
      (fun n t ht => pk_le l l (fun _ => ?_) (fun z => absurd z (by omega)))
      (fun n i t hi ht hw => pk_le l i (fun z => absurd z (by omega)) (fun _ => ⟨pk_in (s + i) 256 (by omega) (hx := nI_add s i), ?_⟩))
    · rw [ht.1]
      exact ry_set hP hR (rg_R_prot hr hq hA ht.2) (rg_R_cy hr hm hp hc) h
    · have ep : t.2 (s + i) = a (s + i) := by
        rw [ht.2.2 (s + i) (by omega)]
        rcases hr (s + i) (by omega) with ⟨e1, e2, e3⟩ | ⟨e1, e2, e3, e4, e5⟩
        · exact absurd e2 (rg_all hA (by omega) (by omega))
        · exact e2.symm
      have st : rg_F s (s + (i + 1)) (fun _ => v3) p (upd t.2 (nI s + nI i).toNatClampNeg v3) := rg_F_s ht.2 (Nat.le_add_right _ _) (pk_cl (s + i) (nI_add s i)) rfl
      refine br_c (fun z => ⟨pk_in (s + i) 256 (by omega) (hx := nI_add s i), nm_e (nm_r (nI_1 i) (hw (t.1, _) ⟨?_, st⟩))⟩) (fun z => nm_r (nI_1 t.1) ⟨pk_in (s + i) 256 (by omega) (hx := nI_add s i), nm_e (nm_r (nI_1 i) (hw (t.1 + 1, _) ⟨?_, st⟩))⟩)
      · rw [pk_cl (s + i) (nI_add s i), ep] at z
        rw [rg_cn_f (decide_eq_false (fun y => y z))]; exact ht.1
      · rw [pk_cl (s + i) (nI_add s i), ep] at z
        rw [rg_cn_t (decide_eq_true z), ht.1]
  · rw [Int32.le_iff_toInt_le, rg_i7] at k2
    have := z.2.2
    omega
theorem ry_mv {post : Int32 → SY → Prop} {P R s l t : Nat} {a b m p c om op oc : Nat → Int32} (hP : P ≤ 256) (hR : R ≤ 32) (hl : 1 ≤ l) (hs : s + l ≤ P) (ht : t + l ≤ P) (hr : rg_R P a b m p c) (hA : ¬ rg_cn (rg_mp a) s l < l) (h : sp_mv P R s l t (nI (rg_cn (rg_out a s l) t l)) a b (rg_QY P R post)) : wpY_move post (nI P, nI R, m, p, c, om, op, oc) (nI s) (nI l) (nI t) := by
  unfold wpY_move
  dsimp only
  have hle := rg_cn_le (rg_mp a) s l
  refine ry_range hP _ _ (fun _ => br_f rg_10 (ry_range hP _ _ (fun _ => br_f rg_10 (ry_cnt hP hr hs (pk_le l (rg_cn (rg_mp a) s l) (fun _ => ?_) (fun z => absurd z hA)))) (fun g => absurd (rg_PR_i hP hl ht) g))) (fun g => absurd (rg_PR_i hP hl hs) g)
  refine ry_rem hP hr (fun om op oc hm hp hc => ?_)
  dsimp only
  refine pk_loop (fun n i (w : Nat → Int32) => wY_move_40 post (nI s) (nI l) (nI t) (nI P) (nI R) n (nI i) w p c om op oc) (fun i w => rg_F s (s + i) (fun _ => 0) m w) l 0 m (Nat.zero_le _) (rg_F_0 _ _ _)
    (fun n m1 h1 => pk_le l l (fun _ => ?_) (fun z => absurd z (by omega)))
    (fun n i w hi hw hn => pk_le l i (fun z => absurd z (by omega)) (fun _ => ⟨pk_in (s + i) 256 (by omega) (hx := nI_add s i), nm_e (nm_r (nI_1 i) (hn _ (rg_F_s hw (Nat.le_add_right _ _) (pk_cl (s + i) (nI_add s i)) (rg_nb (Or.inl rfl)))))⟩))
  have kk : ∀ i, i < l → (nI s + nI i).toNatClampNeg = s + (t + i - t) := fun i hi => (pk_cl (s + i) (nI_add s i)).trans (by omega)
  refine pk_loop (fun n i (w : Nat × (Nat → Int32) × (Nat → Int32) × (Nat → Int32)) => wY_move_68 post (nI s) (nI l) (nI t) (nI P) (nI R) n (nI w.1) (nI i) w.2.1 w.2.2.1 w.2.2.2 om op oc) (fun i w => w.1 = rg_cn (rg_out a s l) t i ∧ rg_F t (t + i) (fun _ => 1) m1 w.2.1 ∧ rg_F t (t + i) (fun j => op (s + (j - t))) p w.2.2.1 ∧ rg_F t (t + i) (fun j => oc (s + (j - t))) c w.2.2.2) l 0 (0, m1, p, c) (Nat.zero_le _) ⟨rfl, rg_F_0 _ _ _, rg_F_0 _ _ _, rg_F_0 _ _ _⟩
    (fun n w hw => pk_le l l (fun _ => ?_) (fun z => absurd z (by omega)))
    (fun n i w hi hw hn => pk_le l i (fun z => absurd z (by omega)) (fun _ => nm_r (nI_add t i) ?_))
  · rw [hw.1]
    exact ry_set hP hR (rg_R_mv hs hr hA hp hc h1 hw.2.1 hw.2.2.1 hw.2.2.2) (rg_R_cy hr hm hp hc) h
  · obtain ⟨w0, w1, w2, w3⟩ := w
    obtain ⟨hw0, hw1, hw2, hw3⟩ := hw
    have hk : (nI (t + i)).toNatClampNeg = t + i := nI_clamp (by omega)
    have last : ∀ k, k = rg_cn (rg_out a s l) t (i + 1) → wY_move_119 post (wY_move_68 post (nI s) (nI l) (nI t) (nI P) (nI R) n) (nI s) (nI l) (nI t) (nI k) (nI i) (nI (t + i)) (nI P) (nI R) w1 w2 w3 om op oc := fun k ek =>
      ⟨pk_in (t + i) 256 (by omega), nm_e ⟨pk_in (s + i) 256 (by omega) (hx := nI_add s i), pk_in (t + i) 256 (by omega), nm_e ⟨pk_in (s + i) 256 (by omega) (hx := nI_add s i), pk_in (t + i) 256 (by omega), nm_e (nm_r (nI_1 i) (hn (k, _, _, _) ⟨ek, rg_F_s hw1 (Nat.le_add_right _ _) hk (rg_nb (Or.inr rfl)), rg_F_s hw2 (Nat.le_add_right _ _) hk (congrArg op (kk i hi)), rg_F_s hw3 (Nat.le_add_right _ _) hk (congrArg oc (kk i hi))⟩))⟩⟩⟩
    have tl : (t + i < s ∨ s + l ≤ t + i) → wY_move_99 post (wY_move_68 post (nI s) (nI l) (nI t) (nI P) (nI R) n) (nI s) (nI l) (nI t) (nI w0) (nI i) (nI (t + i)) 0 (nI P) (nI R) w1 w2 w3 om op oc := by
      intro ho
      have ho' : (decide (t + i < s) || decide (s + l ≤ t + i)) = true := by
        rcases ho with ho | ho
        · rw [decide_eq_true ho]; rfl
        · rw [decide_eq_true ho]; exact Bool.or_true _
      refine br_t rfl ⟨pk_in (t + i) 256 (by omega), br_c (fun z => last w0 ?_) (fun z => nm_r (nI_1 w0) (last (w0 + 1) ?_))⟩
      · rw [hk, hm _ (by omega)] at z
        rw [rg_cn_f (by unfold rg_out; rw [rg_mp_f.mpr (rg_R_0 hr (by omega) z)]; exact Bool.and_false _)]
        exact hw0
      · rw [hk, hm _ (by omega)] at z
        rw [rg_cn_t (by unfold rg_out; rw [rg_mp_t.mpr (rg_R_1 hr (by omega) z), ho']; rfl), ← hw0]
    refine pk_lt (t + i) s (fun z => tl (Or.inl z)) (fun z => ?_)
    refine pk_le (s + l) (t + i) (fun y => tl (Or.inr y)) (fun y => br_f rg_10 (last w0 ?_)) (hx := nI_add s l)
    rw [rg_cn_f (by unfold rg_out; rw [decide_eq_false (by omega), decide_eq_false (by omega)]; rfl)]
    exact hw0
theorem ry_move {post : Int32 → SY → Prop} {P R : Nat} {a b m p c om op oc : Nat → Int32} {v1 v2 v3 : Int32} (hP : P ≤ 256) (hR : R ≤ 32) (hr : rg_R P a b m p c) (h : sp_move P R a b v1 v2 v3 (rg_QY P R post)) : wpY_move post (nI P, nI R, m, p, c, om, op, oc) v1 v2 v3 := by
  by_cases g : rg_PR P v1 v2 ∧ rg_PR P v3 v2
  · have h := h.1 g
    obtain ⟨g1, g2⟩ := g
    obtain ⟨s, l, rfl, rfl, hl, hs⟩ := rg_PR_n g1
    obtain ⟨t, l', rfl, el, hl', ht⟩ := rg_PR_n g2
    have el : l = l' := (nI_eq (by omega) (by omega)).mp el
    subst el
    rw [nI_clamp (show s < 2 ^ 31 by omega), nI_clamp (show l < 2 ^ 31 by omega), nI_clamp (show t < 2 ^ 31 by omega)] at h
    by_cases hA : rg_cn (rg_mp a) s l < l
    · unfold wpY_move
      dsimp only
      exact ry_range hP _ _ (fun _ => br_f rg_10 (ry_range hP _ _ (fun _ => br_f rg_10 (ry_cnt hP hr hs (pk_le l (rg_cn (rg_mp a) s l) (fun z => absurd z (by omega)) (fun z => rg_QY_s (h.1 hA) hr)))) (fun g => absurd g2 g))) (fun g => absurd g1 g)
    · exact ry_mv hP hR hl hs ht hr hA (h.2 hA)
  · have hb := rg_QY_s (om := om) (op := op) (oc := oc) (h.2 g) hr
    unfold wpY_move
    dsimp only
    exact ry_range hP _ _ (fun g1 => br_f rg_10 (ry_range hP _ _ (fun g2 => absurd ⟨g1, g2⟩ g) (fun _ => br_t rfl hb))) (fun _ => br_t rfl hb)
theorem ry_moveFree {post : Int32 → SY → Prop} {P R : Nat} {a b m p c om op oc : Nat → Int32} {v1 v2 v3 : Int32} (hP : P ≤ 256) (hR : R ≤ 32) (hr : rg_R P a b m p c) (h : sp_moveFree P R a b v1 v2 v3 (rg_QY P R post)) : wpY_moveFree post (nI P, nI R, m, p, c, om, op, oc) v1 v2 v3 := by
  unfold wpY_moveFree
  dsimp only
  refine ry_range hP v1 v2 (fun g => br_f rg_10 (br_c (fun k => rg_QY_s (h.2 (fun z => ?_)) hr) (fun k => br_c (fun k2 => ?_) (fun k2 => rg_QY_s (h.2 (fun z => ?_)) hr)))) (fun g => br_t rfl (rg_QY_s (h.2 (fun z => g z.1)) hr))
  · rw [Int32.lt_iff_toInt_lt, rg_i0] at k
    have := z.2.1
    omega
  · rw [Int32.lt_iff_toInt_lt, rg_i0] at k
    rw [Int32.lt_iff_toInt_lt, nI_toInt (by omega)] at k2
    have hq : rg_PG P v3 := ⟨by omega, by omega⟩
    have h := h.1 ⟨g, hq⟩
    obtain ⟨s, l, rfl, rfl, hl, hs⟩ := rg_PR_n g
    obtain ⟨x, rfl, hx⟩ := rg_PG_n hq
    rw [nI_clamp (show s < 2 ^ 31 by omega), nI_clamp (show l < 2 ^ 31 by omega), nI_clamp (show x < 2 ^ 31 by omega)] at h
    have hle := rg_cn_le (rg_mp a) s l
    refine ry_cnt hP hr hs (pk_le l (rg_cn (rg_mp a) s l) (fun z => ?_) (fun z => rg_QY_s (h.1 z) hr))
    have hA : ¬ rg_cn (rg_mp a) s l < l := by omega
    have h := h.2 hA
    refine ry_fl hP hr hx hl (by omega) (fun r hF => ?_)
    have h := h r hF
    rcases hF with ⟨t, f1, f2, f3, f4, rfl⟩ | ⟨f1, rfl⟩
    · have h := h.1 (rg_0le (by omega))
      rw [nI_clamp (show t < 2 ^ 31 by omega)] at h
      have hle2 := rg_cn_le (rg_out a s l) t l
      exact br_t (rg_0le (by omega)) (ry_mv hP hR hl hs f2 hr hA ⟨fun k m p c om op oc w => br_t (rg_0le (by omega)) (h.1 k m p c om op oc w), fun k m p c om op oc w => br_f (by decide) (h.2 k m p c om op oc w)⟩)
    · exact br_f (by decide) (rg_QY_s (h.2 (by decide)) hr)
  · rw [Int32.lt_iff_toInt_lt, nI_toInt (by omega)] at k2
    have := z.2.2
    omega
