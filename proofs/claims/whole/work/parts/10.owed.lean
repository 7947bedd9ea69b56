/-- the relation: the same P and R, the two maps related below P -/
def i_Rel (k : Nat) (u : SX) (v : SY) : Prop := ∃ (P R : Nat) (a b d e m p c om op oc : Nat → Int32), u = (nI P, nI R, a, b, d, e) ∧ v = (nI P, nI R, m, p, c, om, op, oc) ∧ P ≤ 256 ∧ R ≤ 32 ∧ rg_R P a b m p c
theorem i_up {k : Nat} {u : SX} {v : SY} (h : i_Rel k u v) : i_Rel (k + 5) u v := h
theorem ri_mk {k P R : Nat} {a b a' b' d e m p c om op oc : Nat → Int32} (hP : P ≤ 256) (hR : R ≤ 32) (ha : rg_eq P a a') (hb : rg_eq P b b') (hr : rg_R P a' b' m p c) : i_Rel k (nI P, nI R, a, b, d, e) (nI P, nI R, m, p, c, om, op, oc) := ⟨P, R, a, b, d, e, m, p, c, om, op, oc, rfl, rfl, hP, hR, rg_R_cg hr ha hb⟩
theorem ri_16 : (16 : Int32) = nI 16 := by decide
theorem ri_2 : (2 : Int32) = nI 2 := by decide
theorem ri_32 : (32 : Int32) = nI 32 := by decide
theorem ri_cl {x lo hi : Int32} {l h : Nat} (el : lo = nI l) (eh : hi = nI h) (hl : l ≤ h) (hh : h < 2 ^ 31) (h1 : lo ≤ x) (h2 : x ≤ hi) : ∃ n : Nat, n ≤ h ∧ x = nI n := by
  subst el eh
  rw [Int32.le_iff_toInt_le, nI_toInt (by omega)] at h1 h2
  obtain ⟨n, hn, rfl, fn⟩ := rg_nat (x := x) (by omega)
  exact ⟨n, by omega, rfl⟩
theorem ri_x0 {post : SX → Prop} {P R : Nat} (h : ∀ A B D E, (∀ j, j < 256 → A j = -6 ∧ B j = -6) → post (nI P, nI R, A, B, D, E)) : ∃ n, wX_init_66 post (nI P) (nI R) n 0 (fun _ => 0) (fun _ => 0) (fun _ => 0) (fun _ => 0) :=
  pk_loop (fun n i (t : (Nat → Int32) × (Nat → Int32)) => wX_init_66 post (nI P) (nI R) n (nI i) t.1 t.2 (fun _ => 0) (fun _ => 0)) (fun i t => rg_F 0 i (fun _ => -6) (fun _ => 0) t.1 ∧ rg_F 0 i (fun _ => -6) (fun _ => 0) t.2) 256 0 (fun _ => 0, fun _ => 0) (Nat.zero_le _) ⟨rg_F_0 _ _ _, rg_F_0 _ _ _⟩
    (fun n t ht => pk_le 256 256 (fun _ => h _ _ _ _ (fun j hj => ⟨rg_F_eq ht.1 j hj, rg_F_eq ht.2 j hj⟩)) (fun z => absurd z (by omega)))
    (fun n i t hi ht hw => pk_le 256 i (fun z => absurd z (by omega)) (fun _ => ⟨pk_in i 256 hi, nm_e ⟨pk_in i 256 hi, nm_e (nm_r (nI_1 i) (hw (_, _) ⟨rg_F_s ht.1 (Nat.zero_le _) (nI_clamp (by omega)) rfl, rg_F_s ht.2 (Nat.zero_le _) (nI_clamp (by omega)) rfl⟩))⟩⟩))
theorem ri_y0 {post : SY → Prop} {P : Nat} {k1 : Int32} {r : Int32} (hr : (2 ≤ k1 → k1 ≤ 32 → r = k1) ∧ (2 ≤ k1 → ¬ k1 ≤ 32 → r = 32) ∧ (¬ 2 ≤ k1 → r = 2)) (h : post (nI P, r, (fun _ => 0), (fun _ => 0), (fun _ => 0), (fun _ => 0), (fun _ => 0), (fun _ => 0))) : wY_init_84 post k1 (nI P) 0 0 (fun _ => 0) (fun _ => 0) (fun _ => 0) (fun _ => 0) (fun _ => 0) (fun _ => 0) :=
  br_c (fun z => br_c (fun z2 => by rw [hr.1 z z2] at h; exact h) (fun z2 => by rw [hr.2.1 z z2] at h; exact h)) (fun z => by rw [hr.2.2 z] at h; exact h)
theorem ri_00 {k P R : Nat} (hP : P ≤ 256) (hR : R ≤ 32) {A B D E : Nat → Int32} (h : ∀ j, j < 256 → A j = -6 ∧ B j = -6) : i_Rel k (nI P, nI R, A, B, D, E) (nI P, nI R, (fun _ => 0), (fun _ => 0), (fun _ => 0), (fun _ => 0), (fun _ => 0), (fun _ => 0)) :=
  ri_mk hP hR (fun _ _ => rfl) (fun _ _ => rfl) (fun j hj => Or.inl ⟨rfl, (h j (by omega)).1, (h j (by omega)).2⟩)
theorem ri_lim (k1 : Int32) : ∃ R : Nat, R ≤ 32 ∧ (∀ post : Int32 → Prop, post (nI R) → wpX_clamp post k1 2 32) ∧ (2 ≤ k1 → k1 ≤ 32 → nI R = k1) ∧ (2 ≤ k1 → ¬ k1 ≤ 32 → nI R = 32) ∧ (¬ 2 ≤ k1 → nI R = 2) := by
  by_cases h1 : 2 ≤ k1
  · by_cases h2 : k1 ≤ 32
    · obtain ⟨n, hn, rfl⟩ := ri_cl ri_2 ri_32 (by omega) (by omega) h1 h2
      exact ⟨n, hn, fun post hp => br_t h1 (br_t h2 hp), fun _ _ => rfl, fun _ z => absurd h2 z, fun z => absurd h1 z⟩
    · exact ⟨32, by omega, fun post hp => br_t h1 (br_f h2 hp), fun _ z => absurd z h2, fun _ _ => rfl, fun z => absurd h1 z⟩
  · exact ⟨2, by omega, fun post hp => br_f h1 hp, fun z => absurd z h1, fun z => absurd z h1, fun _ => rfl⟩
theorem ri_pag (k0 : Int32) : ∃ P : Nat, P ≤ 256 ∧ (∀ post : Int32 → Prop, post (nI P) → wpX_clamp post k0 16 256) ∧ (∀ (post : SY → Prop) (k1 : Int32), wY_init_84 post k1 (nI P) 0 0 (fun _ => 0) (fun _ => 0) (fun _ => 0) (fun _ => 0) (fun _ => 0) (fun _ => 0) → wpY_init post k0 k1) := by
  by_cases h1 : 16 ≤ k0
  · by_cases h2 : k0 ≤ 256
    · obtain ⟨n, hn, rfl⟩ := ri_cl ri_16 rg_n256 (by omega) (by omega) h1 h2
      exact ⟨n, hn, fun post hp => br_t h1 (br_t h2 hp), fun post k1 hp => br_t h1 (br_t h2 hp)⟩
    · exact ⟨256, by omega, fun post hp => br_t h1 (br_f h2 hp), fun post k1 hp => br_t h1 (br_f h2 hp)⟩
  · exact ⟨16, by omega, fun post hp => br_f h1 hp, fun post k1 hp => br_f h1 hp⟩
theorem i_vc0 (k0 : Int32) (k1 : Int32) : wpX_init (fun u => wpY_init (fun v => i_Rel 2 u v) k0 k1) k0 k1 := by
  obtain ⟨P, hP, hx, hy⟩ := ri_pag k0
  obtain ⟨R, hR, hr, hs⟩ := ri_lim k1
  unfold wpX_init
  exact hx _ (hr _ (ri_x0 (fun A B D E h => hy _ _ (ri_y0 hs (ri_00 hP hR h)))))
theorem i_vc_mapNew {k : Nat} {u : SX} {v : SY} (I : i_Rel k u v) (hk : k + 5 ≤ 2562) (v1 : Int32) (v2 : Int32) (v3 : Int32) (v4 : Int32) : wpX_mapNew (fun r u' => wpY_mapNew (fun r' v' => r' = r ∧ i_Rel (k + 5) u' v') v v1 v2 v3 v4) u v1 v2 v3 v4 := by
  obtain ⟨P, R, a, b, d, e, m, p, c, om, op, oc, rfl, rfl, hP, hR, hr⟩ := I
  obtain ⟨r, a', b', H⟩ := sd_mapNew P R a b v1 v2 v3 v4
  exact rx_mapNew hP hR (H _ (fun A B D E hA hB => ry_mapNew hP hR hr (H _ (fun m p c om op oc w => ⟨rfl, ri_mk hP hR hA hB w⟩))))
theorem i_vc_mapOver {k : Nat} {u : SX} {v : SY} (I : i_Rel k u v) (hk : k + 5 ≤ 2562) (v1 : Int32) (v2 : Int32) (v3 : Int32) (v4 : Int32) : wpX_mapOver (fun r u' => wpY_mapOver (fun r' v' => r' = r ∧ i_Rel (k + 5) u' v') v v1 v2 v3 v4) u v1 v2 v3 v4 := by
  obtain ⟨P, R, a, b, d, e, m, p, c, om, op, oc, rfl, rfl, hP, hR, hr⟩ := I
  obtain ⟨r, a', b', H⟩ := sd_mapOver P R a b v1 v2 v3 v4
  exact rx_mapOver hP hR (H _ (fun A B D E hA hB => ry_mapOver hP hR hr (H _ (fun m p c om op oc w => ⟨rfl, ri_mk hP hR hA hB w⟩))))
theorem i_vc_mapLow {k : Nat} {u : SX} {v : SY} (I : i_Rel k u v) (hk : k + 5 ≤ 2562) (v1 : Int32) (v2 : Int32) (v3 : Int32) (v4 : Int32) : wpX_mapLow (fun r u' => wpY_mapLow (fun r' v' => r' = r ∧ i_Rel (k + 5) u' v') v v1 v2 v3 v4) u v1 v2 v3 v4 := by
  obtain ⟨P, R, a, b, d, e, m, p, c, om, op, oc, rfl, rfl, hP, hR, hr⟩ := I
  obtain ⟨r, a', b', H⟩ := sd_mapLow P R a b v1 v2 v3 v4
  exact rx_mapLow hP hR (H _ (fun A B D E hA hB => ry_mapLow hP hR hr (H _ (fun m p c om op oc w => ⟨rfl, ri_mk hP hR hA hB w⟩))))
theorem i_vc_mapHigh {k : Nat} {u : SX} {v : SY} (I : i_Rel k u v) (hk : k + 5 ≤ 2562) (v1 : Int32) (v2 : Int32) (v3 : Int32) (v4 : Int32) : wpX_mapHigh (fun r u' => wpY_mapHigh (fun r' v' => r' = r ∧ i_Rel (k + 5) u' v') v v1 v2 v3 v4) u v1 v2 v3 v4 := by
  obtain ⟨P, R, a, b, d, e, m, p, c, om, op, oc, rfl, rfl, hP, hR, hr⟩ := I
  obtain ⟨r, a', b', H⟩ := sd_mapHigh P R a b v1 v2 v3 v4
  exact rx_mapHigh hP hR (H _ (fun A B D E hA hB => ry_mapHigh hP hR hr (H _ (fun m p c om op oc w => ⟨rfl, ri_mk hP hR hA hB w⟩))))
theorem i_vc_unmap {k : Nat} {u : SX} {v : SY} (I : i_Rel k u v) (hk : k + 5 ≤ 2562) (v1 : Int32) (v2 : Int32) : wpX_unmap (fun r u' => wpY_unmap (fun r' v' => r' = r ∧ i_Rel (k + 5) u' v') v v1 v2) u v1 v2 := by
  obtain ⟨P, R, a, b, d, e, m, p, c, om, op, oc, rfl, rfl, hP, hR, hr⟩ := I
  obtain ⟨r, a', b', H⟩ := sd_unmap P R a b v1 v2
  exact rx_unmap hP hR (H _ (fun A B D E hA hB => ry_unmap hP hR hr (H _ (fun m p c om op oc w => ⟨rfl, ri_mk hP hR hA hB w⟩))))
theorem i_vc_protect {k : Nat} {u : SX} {v : SY} (I : i_Rel k u v) (hk : k + 5 ≤ 2562) (v1 : Int32) (v2 : Int32) (v3 : Int32) : wpX_protect (fun r u' => wpY_protect (fun r' v' => r' = r ∧ i_Rel (k + 5) u' v') v v1 v2 v3) u v1 v2 v3 := by
  obtain ⟨P, R, a, b, d, e, m, p, c, om, op, oc, rfl, rfl, hP, hR, hr⟩ := I
  obtain ⟨r, a', b', H⟩ := sd_protect P R a b v1 v2 v3
  exact rx_protect hP hR (H _ (fun A B D E hA hB => ry_protect hP hR hr (H _ (fun m p c om op oc w => ⟨rfl, ri_mk hP hR hA hB w⟩))))
theorem i_vc_move {k : Nat} {u : SX} {v : SY} (I : i_Rel k u v) (hk : k + 5 ≤ 2562) (v1 : Int32) (v2 : Int32) (v3 : Int32) : wpX_move (fun r u' => wpY_move (fun r' v' => r' = r ∧ i_Rel (k + 5) u' v') v v1 v2 v3) u v1 v2 v3 := by
  obtain ⟨P, R, a, b, d, e, m, p, c, om, op, oc, rfl, rfl, hP, hR, hr⟩ := I
  obtain ⟨r, a', b', H⟩ := sd_move P R a b v1 v2 v3
  exact rx_move hP hR (H _ (fun A B D E hA hB => ry_move hP hR hr (H _ (fun m p c om op oc w => ⟨rfl, ri_mk hP hR hA hB w⟩))))
theorem i_vc_moveFree {k : Nat} {u : SX} {v : SY} (I : i_Rel k u v) (hk : k + 5 ≤ 2562) (v1 : Int32) (v2 : Int32) (v3 : Int32) : wpX_moveFree (fun r u' => wpY_moveFree (fun r' v' => r' = r ∧ i_Rel (k + 5) u' v') v v1 v2 v3) u v1 v2 v3 := by
  obtain ⟨P, R, a, b, d, e, m, p, c, om, op, oc, rfl, rfl, hP, hR, hr⟩ := I
  obtain ⟨r, a', b', H⟩ := sd_moveFree P R a b v1 v2 v3
  exact rx_moveFree hP hR (H _ (fun A B D E hA hB => ry_moveFree hP hR hr (H _ (fun m p c om op oc w => ⟨rfl, ri_mk hP hR hA hB w⟩))))
theorem i_vc_protOf {k : Nat} {u : SX} {v : SY} (I : i_Rel k u v) (hk : k + 5 ≤ 2562) (v1 : Int32) : wpX_protOf (fun r => wpY_protOf (fun r' => r' = r ∧ i_Rel (k + 5) u v) v v1) u v1 := by
  obtain ⟨P, R, a, b, d, e, m, p, c, om, op, oc, rfl, rfl, hP, hR, hr⟩ := I
  have K : i_Rel (k + 5) (nI P, nI R, a, b, d, e) (nI P, nI R, m, p, c, om, op, oc) := ri_mk hP hR (fun _ _ => rfl) (fun _ _ => rfl) hr
  refine rx_protOf hP (fun x ex hx => ?_) (fun g => ?_)
  · subst ex
    refine br_f (nI_pos (by omega)) (br_t (nI_lt hx (by omega)) ⟨pk_in x 256 (by omega), ?_⟩)
    rw [nI_clamp (show x < 2 ^ 31 by omega)]
    rcases hr x hx with ⟨e1, e2, e3⟩ | ⟨e1, e2, e3, e4, e5⟩
    · exact br_t e1 ⟨e2.symm, K⟩
    · exact br_f (by rw [e1]; exact rg_10) ⟨pk_in x 256 (by omega), e2.symm, K⟩
  · refine br_c (fun _ => ⟨rfl, K⟩) (fun k1 => br_c (fun k2 => absurd ?_ g) (fun _ => ⟨rfl, K⟩))
    rw [Int32.lt_iff_toInt_lt, rg_i0] at k1
    rw [Int32.lt_iff_toInt_lt, nI_toInt (by omega)] at k2
    exact ⟨by omega, by omega⟩
theorem i_vc_backingOf {k : Nat} {u : SX} {v : SY} (I : i_Rel k u v) (hk : k + 5 ≤ 2562) (v1 : Int32) : wpX_backingOf (fun r => wpY_backingOf (fun r' => r' = r ∧ i_Rel (k + 5) u v) v v1) u v1 := by
  obtain ⟨P, R, a, b, d, e, m, p, c, om, op, oc, rfl, rfl, hP, hR, hr⟩ := I
  have K : i_Rel (k + 5) (nI P, nI R, a, b, d, e) (nI P, nI R, m, p, c, om, op, oc) := ri_mk hP hR (fun _ _ => rfl) (fun _ _ => rfl) hr
  refine rx_backingOf hP (fun x ex hx => ?_) (fun g => ?_)
  · subst ex
    refine br_f (nI_pos (by omega)) (br_t (nI_lt hx (by omega)) ⟨pk_in x 256 (by omega), ?_⟩)
    rw [nI_clamp (show x < 2 ^ 31 by omega)]
    rcases hr x hx with ⟨e1, e2, e3⟩ | ⟨e1, e2, e3, e4, e5⟩
    · exact br_t e1 ⟨e3.symm, K⟩
    · exact br_f (by rw [e1]; exact rg_10) ⟨pk_in x 256 (by omega), e3.symm, K⟩
  · refine br_c (fun _ => ⟨rfl, K⟩) (fun k1 => br_c (fun k2 => absurd ?_ g) (fun _ => ⟨rfl, K⟩))
    rw [Int32.lt_iff_toInt_lt, rg_i0] at k1
    rw [Int32.lt_iff_toInt_lt, nI_toInt (by omega)] at k2
    exact ⟨by omega, by omega⟩
theorem i_vc_regionCount {k : Nat} {u : SX} {v : SY} (I : i_Rel k u v) (hk : k + 5 ≤ 2562) : wpX_regionCount (fun r => wpY_regionCount (fun r' => r' = r ∧ i_Rel (k + 5) u v) v) u := by
  obtain ⟨P, R, a, b, d, e, m, p, c, om, op, oc, rfl, rfl, hP, hR, hr⟩ := I
  exact rx_rc hP (ry_rc hP hr ⟨rfl, ri_mk hP hR (fun _ _ => rfl) (fun _ _ => rfl) hr⟩)
theorem i_vc_regionStart {k : Nat} {u : SX} {v : SY} (I : i_Rel k u v) (hk : k + 5 ≤ 2562) (v1 : Int32) : wpX_regionStart (fun r => wpY_regionStart (fun r' => r' = r ∧ i_Rel (k + 5) u v) v v1) u v1 := by
  obtain ⟨P, R, a, b, d, e, m, p, c, om, op, oc, rfl, rfl, hP, hR, hr⟩ := I
  exact rx_rs hP (fun r hF => ry_rs hP hr (fun r' hF' => ⟨rg_RS_u hF hF', ri_mk hP hR (fun _ _ => rfl) (fun _ _ => rfl) hr⟩))
theorem i_vc_regionLength {k : Nat} {u : SX} {v : SY} (I : i_Rel k u v) (hk : k + 5 ≤ 2562) (v1 : Int32) : wpX_regionLength (fun r => wpY_regionLength (fun r' => r' = r ∧ i_Rel (k + 5) u v) v v1) u v1 := by
  obtain ⟨P, R, a, b, d, e, m, p, c, om, op, oc, rfl, rfl, hP, hR, hr⟩ := I
  have K : i_Rel (k + 5) (nI P, nI R, a, b, d, e) (nI P, nI R, m, p, c, om, op, oc) := ri_mk hP hR (fun _ _ => rfl) (fun _ _ => rfl) hr
  have hne : ∀ t, t < P → ¬ nI t = -1 := fun t ht z => by
    have h := congrArg Int32.toInt z
    rw [nI_toInt (by omega), show (-1 : Int32).toInt = -1 from by decide] at h
    omega
  refine rx_rl hP (fun h0 => ry_rl hP hr (fun _ => ⟨rfl, K⟩) (fun t l ht h1 h2 => absurd (rg_RS_u h0 h1) (hne t ht))) (fun t l ht h1 h2 => ry_rl hP hr (fun h0 => absurd (rg_RS_u h0 h1) (hne t ht)) (fun t' l' ht' g1 g2 => ⟨?_, K⟩))
  have et : t' = t := (nI_eq (by omega) (by omega)).mp (rg_RS_u h1 g1)
  subst et
  rw [rg_RL_u h2 g2]
theorem i_vc_findLow {k : Nat} {u : SX} {v : SY} (I : i_Rel k u v) (hk : k + 5 ≤ 2562) (v1 : Int32) (v2 : Int32) : wpX_findLow (fun r => wpY_findLow (fun r' => r' = r ∧ i_Rel (k + 5) u v) v v1 v2) u v1 v2 := by
  obtain ⟨P, R, a, b, d, e, m, p, c, om, op, oc, rfl, rfl, hP, hR, hr⟩ := I
  have K : i_Rel (k + 5) (nI P, nI R, a, b, d, e) (nI P, nI R, m, p, c, om, op, oc) := ri_mk hP hR (fun _ _ => rfl) (fun _ _ => rfl) hr
  refine rx_fl hP (fun g => ry_fl0 hP g ⟨rfl, K⟩) (fun x y r ex ey hx hy1 hy2 hF => ?_)
  subst ex ey
  exact ry_fl hP hr hx hy1 hy2 (fun r' hF' => ⟨rg_FL_u hF hF', K⟩)
theorem i_vc_findHigh {k : Nat} {u : SX} {v : SY} (I : i_Rel k u v) (hk : k + 5 ≤ 2562) (v1 : Int32) (v2 : Int32) : wpX_findHigh (fun r => wpY_findHigh (fun r' => r' = r ∧ i_Rel (k + 5) u v) v v1 v2) u v1 v2 := by
  obtain ⟨P, R, a, b, d, e, m, p, c, om, op, oc, rfl, rfl, hP, hR, hr⟩ := I
  have K : i_Rel (k + 5) (nI P, nI R, a, b, d, e) (nI P, nI R, m, p, c, om, op, oc) := ri_mk hP hR (fun _ _ => rfl) (fun _ _ => rfl) hr
  refine rx_fh hP (fun g => ry_fh0 hP g ⟨rfl, K⟩) (fun x y r ex ey hx1 hx2 hy1 hy2 hF => ?_)
  subst ex ey
  exact ry_fh hP hr hx1 hx2 hy1 hy2 (fun r' hF' => ⟨rg_FH_u hF hF', K⟩)
theorem i_vc_longestGap {k : Nat} {u : SX} {v : SY} (I : i_Rel k u v) (hk : k + 5 ≤ 2562) : wpX_longestGap (fun r => wpY_longestGap (fun r' => r' = r ∧ i_Rel (k + 5) u v) v) u := by
  obtain ⟨P, R, a, b, d, e, m, p, c, om, op, oc, rfl, rfl, hP, hR, hr⟩ := I
  exact rx_lg hP (fun L hF => ry_lg hP hr (fun L' hF' => ⟨by rw [rg_LG_u hF hF'], ri_mk hP hR (fun _ _ => rfl) (fun _ _ => rfl) hr⟩))
