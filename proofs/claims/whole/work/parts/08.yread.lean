/-! the reference, reading -/
theorem rg_R_01 {P : Nat} {a b m p c : Nat → Int32} (h : rg_R P a b m p c) {j : Nat} (hj : j < P) : m j = 0 ∨ m j = 1 := by
  rcases h j hj with ⟨e, _⟩ | ⟨e, _⟩
  · exact Or.inl e
  · exact Or.inr e
theorem rg_R_0 {P : Nat} {a b m p c : Nat → Int32} (h : rg_R P a b m p c) {j : Nat} (hj : j < P) (z : m j = 0) : a j = -6 := by
  rcases h j hj with ⟨_, e, _⟩ | ⟨e, _⟩
  · exact e
  · rw [e] at z; exact absurd z rg_10
theorem rg_R_1 {P : Nat} {a b m p c : Nat → Int32} (h : rg_R P a b m p c) {j : Nat} (hj : j < P) (z : ¬ m j = 0) : ¬ a j = -6 := by
  rcases h j hj with ⟨e, _⟩ | ⟨_, _, _, e, _⟩
  · exact absurd e z
  · exact e
theorem rg_nb {x : Int32} (h : x = 0 ∨ x = 1) : vp_nar .boolean x = x := by
  rcases h with rfl | rfl <;> rfl
theorem ry_range {post : Int32 → Prop} {P : Nat} {f : Int32} {m p c om op oc : Nat → Int32} (hP : P ≤ 256) (s l : Int32) (h1 : rg_PR P s l → post 1) (h0 : ¬ rg_PR P s l → post 0) : wpY_properRange post (nI P, f, m, p, c, om, op, oc) s l := by
  refine br_c (fun h => h0 ?_) (fun h => br_c (fun g => h0 ?_) (fun g => br_c (fun g2 => h0 ?_) (fun g2 => ?_)))
  · rw [Int32.lt_iff_toInt_lt, rg_i0] at h
    exact fun z => by have := z.1; omega
  · rw [Int32.lt_iff_toInt_lt, rg_i1] at g
    exact fun z => by have := z.2.1; omega
  · rw [Int32.lt_iff_toInt_lt, rg_i0] at h
    rw [Int32.lt_iff_toInt_lt, nI_toInt (by omega)] at g2
    exact fun z => by have := z.2.2; omega
  · rw [Int32.lt_iff_toInt_lt, rg_i0] at h
    rw [Int32.lt_iff_toInt_lt, rg_i1] at g
    rw [Int32.lt_iff_toInt_lt, nI_toInt (by omega)] at g2
    refine br_c (fun k => h0 ?_) (fun k => h1 ?_)
    · rw [Int32.lt_iff_toInt_lt, rg_sub hP ⟨by omega, by omega⟩] at k
      exact fun z => by have := z.2.2; omega
    · rw [Int32.lt_iff_toInt_lt, rg_sub hP ⟨by omega, by omega⟩] at k
      exact ⟨by omega, by omega, by omega⟩
theorem ry_attr {post : Int32 → Prop} {P : Nat} {f : Int32} {m p c om op oc : Nat → Int32} (hP : P ≤ 256) (l q b : Int32) (hl : rg_LN P l) (h1 : rg_PA l q b → post 1) (h0 : ¬ rg_PA l q b → post 0) : wpY_properAttributes post (nI P, f, m, p, c, om, op, oc) l q b := by
  refine br_c (fun h => h0 ?_) (fun h => br_c (fun g => br_c (fun z => h1 ⟨?_, Or.inl z⟩) (fun z => br_c (fun k => h0 ?_) (fun k => br_c (fun k2 => h0 ?_) (fun k2 => ⟨rg_k0, ?_⟩)))) (fun g => h0 ?_))
  · rw [Int32.lt_iff_toInt_lt, rg_i0] at h
    exact fun z => by have := z.1.1; omega
  · rw [Int32.lt_iff_toInt_lt, rg_i0] at h
    rw [Int32.le_iff_toInt_le, rg_i7] at g
    exact ⟨by omega, by omega⟩
  · rw [Int32.lt_iff_toInt_lt, rg_i1024] at k
    rintro ⟨_, z2 | ⟨z3, _, _⟩⟩
    · exact z z2
    · omega
  · rw [Int32.lt_iff_toInt_lt, rg_i8191] at k2
    rintro ⟨_, z2 | ⟨_, z3, _⟩⟩
    · exact z z2
    · omega
  · rw [Int32.lt_iff_toInt_lt, rg_i0] at h
    rw [Int32.le_iff_toInt_le, rg_i7] at g
    rw [Int32.lt_iff_toInt_lt, rg_i1024] at k
    rw [Int32.lt_iff_toInt_lt, rg_i8191] at k2
    obtain ⟨w, hw, e1, e2⟩ := rg_rem (b := b) (by omega) (by omega)
    obtain ⟨y, rfl, hy1, hy2⟩ := rg_LN_n hl
    have hy : (nI y).toInt = y := nI_toInt (by omega)
    rw [e1, nI_add]
    refine br_c (fun k3 => h0 ?_) (fun k3 => h1 ?_)
    · rw [Int32.lt_iff_toInt_lt, rg_i1024, nI_toInt (by omega)] at k3
      rintro ⟨_, z2 | ⟨_, _, z3⟩⟩
      · exact z z2
      · omega
    · rw [Int32.lt_iff_toInt_lt, rg_i1024, nI_toInt (by omega)] at k3
      exact ⟨⟨by omega, by omega⟩, Or.inr ⟨by omega, by omega, by omega⟩⟩
  · rw [Int32.le_iff_toInt_le, rg_i7] at g
    exact fun z => by have := z.1.2; omega
theorem ry_cnt {post : Int32 → Prop} {P s l : Nat} {f : Int32} {a b m p c om op oc : Nat → Int32} (hP : P ≤ 256) (hr : rg_R P a b m p c) (hs : s + l ≤ P) (h : post (nI (rg_cn (rg_mp a) s l))) : wpY_countMapped post (nI P, f, m, p, c, om, op, oc) (nI s) (nI l) :=
  pk_loop (fun n i k => wY_countMapped_5 post (nI s) (nI l) (nI P) f m p c om op oc n (nI k) (nI i)) (fun i k => k = rg_cn (rg_mp a) s i) l 0 0 (Nat.zero_le _) rfl
    (fun n k hk => pk_le l l (fun _ => by rw [hk]; exact h) (fun z => absurd z (by omega)))
    (fun n i k hi hk hw => pk_le l i (fun z => absurd z (by omega)) (fun _ => ⟨pk_in (s + i) 256 (by omega) (hx := nI_add s i), br_c
      (fun z => nm_r (nI_1 i) (hw k (by rw [pk_cl (s + i) (nI_add s i)] at z; rw [rg_cn_f (rg_mp_f.mpr (rg_R_0 hr (by omega) z))]; exact hk)))
      (fun z => nm_r (nI_1 k) (nm_r (nI_1 i) (hw (k + 1) (by rw [pk_cl (s + i) (nI_add s i)] at z; rw [rg_cn_t (rg_mp_t.mpr (rg_R_1 hr (by omega) z)), hk]))))⟩))
theorem ry_cont {post : Int32 → Prop} {P j : Nat} {f : Int32} {m p c om op oc : Nat → Int32} (hP : P ≤ 256) (hj : j < P) (h1 : rg_cy m p c j = true → post 1) (h0 : rg_cy m p c j = false → post 0) : wpY_continuesAt post (nI P, f, m, p, c, om, op, oc) (nI j) := by
  by_cases hz : j = 0
  · subst hz
    exact br_t (by decide) (h0 (decide_eq_false (fun z => absurd z.1 (by omega))))
  have hn : ¬ nI j < 1 := nI_nlt (b := 1) (by omega) (by omega)
  have e1 : nI j - 1 = nI (j - 1) := pk_sub (a := j) (b := 1) (by omega)
  have tl : ¬ m j = 0 → ¬ m (j - 1) = 0 → p j = p (j - 1) → ¬ (c (j - 1) = 0 ∧ c j = 0) → wY_continuesAt_80 post (c (j - 1)) (c j) (nI P) f m p c om op oc := by
    intro z z' k hq
    exact br_c (fun r => h0 (decide_eq_false (fun t => t.2.2.2.2.elim hq (fun y => Int32.not_le.mpr r y.1)))) (fun r => br_c (fun r2 => h0 (decide_eq_false (fun t => t.2.2.2.2.elim hq (fun y => Int32.not_le.mpr r2 y.2.1)))) (fun r2 => ⟨rg_k0, rg_k0, br_c (fun r3 => br_c (fun r4 => h1 (decide_eq_true ⟨by omega, z, z', k, Or.inr ⟨Int32.not_lt.mp r, Int32.not_lt.mp r2, r3, r4⟩⟩)) (fun r4 => h0 (decide_eq_false (fun t => t.2.2.2.2.elim hq (fun y => r4 y.2.2.2))))) (fun r3 => h0 (decide_eq_false (fun t => t.2.2.2.2.elim hq (fun y => r3 y.2.2.1))))⟩))
  unfold wpY_continuesAt
  dsimp only
  rw [e1, nI_clamp (show j < 2 ^ 31 by omega), nI_clamp (show j - 1 < 2 ^ 31 by omega)]
  refine br_f hn (pk_le P j (fun z => absurd z (by omega)) (fun _ => ⟨pk_in j 256 (by omega), br_c (fun z => h0 (decide_eq_false (fun t => t.2.1 z))) (fun z => ⟨pk_in (j - 1) 256 (by omega), br_c (fun z' => h0 (decide_eq_false (fun t => t.2.2.1 z'))) (fun z' => ⟨pk_in j 256 (by omega), pk_in (j - 1) 256 (by omega), ?_⟩)⟩)⟩))
  exact br_c (fun k => ⟨pk_in (j - 1) 256 (by omega), nm_e ⟨pk_in j 256 (by omega), nm_e (br_c (fun q => br_c (fun q2 => h1 (decide_eq_true ⟨by omega, z, z', k, Or.inl ⟨q, q2⟩⟩)) (fun q2 => tl z z' k (fun y => q2 y.2))) (fun q => tl z z' k (fun y => q y.1)))⟩⟩) (fun k => h0 (decide_eq_false (fun t => k t.2.2.2.1)))
theorem rg_st_m {a b : Nat → Int32} {i : Nat} (z : ¬ a i = -6) : rg_st a b i = !rg_co a b i := by
  unfold rg_st
  rw [rg_mp_t.mpr z]
  rfl
theorem rg_st_f {a b : Nat → Int32} {i : Nat} (z : a i = -6) : rg_st a b i = false := by
  unfold rg_st
  rw [rg_mp_f.mpr z]
  rfl
theorem ry_rc {post : Int32 → Prop} {P : Nat} {f : Int32} {a b m p c om op oc : Nat → Int32} (hP : P ≤ 256) (hr : rg_R P a b m p c) (h : post (nI (rg_cn (rg_st a b) 0 P))) : wpY_regionCount post (nI P, f, m, p, c, om, op, oc) := by
  refine pk_loop (fun n i k => wY_regionCount_4 post (nI P) f m p c om op oc n (nI k) (nI i)) (fun i k => k = rg_cn (rg_st a b) 0 i) P 0 0 (Nat.zero_le _) rfl
    (fun n k hk => pk_le P P (fun _ => by rw [hk]; exact h) (fun z => absurd z (by omega)))
    (fun n i k hi hk hw => pk_le P i (fun z => absurd z (by omega)) (fun _ => ⟨pk_in i 256 (by omega), br_c (fun z => ?_) (fun z => ?_)⟩))
  · rw [nI_clamp (show i < 2 ^ 31 by omega)] at z
    refine nm_r (nI_1 i) (hw k ?_)
    rw [rg_cn_f (by rw [Nat.zero_add]; exact rg_st_f (rg_R_0 hr hi z))]
    exact hk
  · rw [nI_clamp (show i < 2 ^ 31 by omega)] at z
    refine ry_cont hP hi (fun y => br_f rg_10 (nm_r (nI_1 i) (hw k ?_))) (fun y => br_t rfl (nm_r (nI_1 k) (nm_r (nI_1 i) (hw (k + 1) ?_))))
    · rw [rg_cy_co hr hi] at y
      rw [rg_cn_f (by rw [Nat.zero_add, rg_st_m (rg_R_1 hr hi z), y]; rfl)]
      exact hk
    · rw [rg_cy_co hr hi] at y
      rw [rg_cn_t (by rw [Nat.zero_add, rg_st_m (rg_R_1 hr hi z), y]; rfl), hk]
theorem ry_rs {post : Int32 → Prop} {P : Nat} {f k : Int32} {a b m p c om op oc : Nat → Int32} (hP : P ≤ 256) (hr : rg_R P a b m p c) (h : ∀ r, rg_RS (rg_st a b) P k r → post r) : wpY_regionStart post (nI P, f, m, p, c, om, op, oc) k := by
  refine pk_loop (fun n i q => wY_regionStart_4 post k (nI P) f m p c om op oc n (nI q) (nI i)) (fun i q => q = rg_cn (rg_st a b) 0 i ∧ rg_IS (rg_st a b) i k) P 0 0 (Nat.zero_le _) ⟨rfl, rg_IS_0 _ _⟩
    (fun n q hq => pk_le P P (fun _ => h _ (rg_IS_x hq.2)) (fun z => absurd z (by omega)))
    (fun n i q hi hq hw => pk_le P i (fun z => absurd z (by omega)) (fun _ => ⟨pk_in i 256 (by omega), br_c (fun z => ?_) (fun z => ?_)⟩))
  · rw [nI_clamp (show i < 2 ^ 31 by omega)] at z
    have y := rg_st_f (b := b) (rg_R_0 hr hi z)
    exact nm_r (nI_1 i) (hw q ⟨by rw [rg_cn_f (by rw [Nat.zero_add]; exact y)]; exact hq.1, rg_IS_m hq.2 y⟩)
  · rw [nI_clamp (show i < 2 ^ 31 by omega)] at z
    refine ry_cont hP hi (fun y => br_f rg_10 (nm_r (nI_1 i) (hw q ?_))) (fun y => br_t rfl ?_)
    · rw [rg_cy_co hr hi] at y
      have y2 : rg_st a b i = false := by rw [rg_st_m (rg_R_1 hr hi z), y]; rfl
      exact ⟨by rw [rg_cn_f (by rw [Nat.zero_add]; exact y2)]; exact hq.1, rg_IS_m hq.2 y2⟩
    · rw [rg_cy_co hr hi] at y
      have y2 : rg_st a b i = true := by rw [rg_st_m (rg_R_1 hr hi z), y]; rfl
      exact br_c (fun w => h _ (rg_IS_r hq.2 hi y2 (by rw [← hq.1]; exact w))) (fun w => nm_r (nI_1 q) (nm_r (nI_1 i) (hw (q + 1) ⟨by rw [rg_cn_t (by rw [Nat.zero_add]; exact y2), hq.1], rg_IS_n hq.2 (by rw [← hq.1]; exact w)⟩)))
theorem ry_rl {post : Int32 → Prop} {P : Nat} {f k : Int32} {a b m p c om op oc : Nat → Int32} (hP : P ≤ 256) (hr : rg_R P a b m p c) (h0 : rg_RS (rg_st a b) P k (-1) → post (-1)) (h1 : ∀ t l, t < P → rg_RS (rg_st a b) P k (nI t) → rg_RL (rg_co a b) P t l → post (nI l)) : wpY_regionLength post (nI P, f, m, p, c, om, op, oc) k := by
  unfold wpY_regionLength
  dsimp only
  refine ry_rs hP hr (fun r hrs => ?_)
  rcases hrs with ⟨t, g1, g2, g3, g4, rfl⟩ | ⟨g1, rfl⟩
  · have hrs : rg_RS (rg_st a b) P k (nI t) := Or.inl ⟨t, g1, g2, g3, g4, rfl⟩
    refine br_t (rg_0le (by omega)) (nm_r (nI_1 t) ?_)
    refine pk_loop (σ := Unit) (fun n i _ => wY_regionLength_19 post (nI P) f m p c om op oc n (nI (1 + i)) (nI (t + 1 + i))) (fun i _ => ∀ q, 1 ≤ q → q < 1 + i → rg_co a b (t + q) = true) (P - t - 1) 0 () (Nat.zero_le _) (fun q q1 q2 => by omega) (fun n _ hI => ?_) (fun n i _ hi hI hw => ?_)
    · refine pk_le P (t + 1 + (P - t - 1)) (fun _ => ?_) (fun z => absurd z (by omega))
      exact h1 t _ g1 hrs ⟨by omega, by omega, hI, Or.inl (by omega)⟩
    · refine pk_le P (t + 1 + i) (fun z => absurd z (by omega)) (fun _ => ry_cont hP (by omega) (fun y => br_f rg_10 (nm_r (nI_1 (1 + i)) (nm_r (nI_1 (t + 1 + i)) (hw () ?_)))) (fun y => br_t rfl ?_))
      · rw [rg_cy_co hr (by omega)] at y
        intro q q1 q2
        by_cases e : q = 1 + i
        · rw [e, show t + (1 + i) = t + 1 + i from by omega]; exact y
        · exact hI q q1 (by omega)
      · rw [rg_cy_co hr (by omega)] at y
        exact h1 t _ g1 hrs ⟨by omega, by omega, hI, Or.inr (by rw [show t + (1 + i) = t + 1 + i from by omega]; exact y)⟩
  · exact br_f (by decide) (h0 (Or.inr ⟨g1, rfl⟩))
theorem ry_fl {post : Int32 → Prop} {P x y : Nat} {f : Int32} {a b m p c om op oc : Nat → Int32} (hP : P ≤ 256) (hr : rg_R P a b m p c) (hx : x < P) (hy1 : 1 ≤ y) (hy2 : y ≤ P) (h : ∀ r, rg_FL a P x y r → post r) : wpY_findLow post (nI P, f, m, p, c, om, op, oc) (nI x) (nI y) := by
  refine br_f (nI_pos (by omega)) (pk_le P x (fun z => absurd z (by omega)) (fun _ => br_f (nI_nlt (b := 1) (by omega) (by omega)) (br_t (nI_le hy2 (by omega)) ?_)))
  have e1 : nI P - nI y = nI (P - y) := pk_sub hy2
  by_cases hxy : x ≤ P - y + 1
  · refine pk_loop (σ := Unit) (fun n i _ => wY_findLow_29 post (nI y) (nI P) f m p c om op oc n (nI i)) (fun i _ => x ≤ i ∧ ∀ t', x ≤ t' → t' < i → ¬ rg_fr a t' y) (P - y + 1) x () hxy ⟨Nat.le_refl _, fun t' h1 h2 => by omega⟩ (fun n _ hI => ?_) (fun n i _ hi hI hw => ?_)
    · exact pk_lt (P - y) (P - y + 1) (fun _ => h _ (Or.inr ⟨fun t' h1 h2 => hI.2 t' h1 (by omega), rfl⟩)) (fun z => absurd z (by omega)) (hx := e1)
    · refine pk_lt (P - y) i (fun z => absurd z (by omega)) (fun _ => ry_cnt hP hr (by omega) ?_) (hx := e1)
      have hle := rg_cn_le (rg_mp a) i y
      refine pk_eq (rg_cn (rg_mp a) i y) 0 (fun z => h _ (Or.inl ⟨i, hI.1, by omega, rg_fr_cn.mp z, hI.2, rfl⟩)) (fun z => nm_r (nI_1 i) (hw () ⟨by omega, fun t' h1 h2 => ?_⟩))
      by_cases e : t' = i
      · rw [e]; exact fun y => z (rg_fr_cn.mpr y)
      · exact hI.2 t' h1 (by omega)
  · exact ⟨1, pk_lt (P - y) x (fun _ => h _ (Or.inr ⟨fun t' h1 h2 => by omega, rfl⟩)) (fun z => absurd z (by omega)) (hx := e1)⟩
theorem ry_fl0 {post : Int32 → Prop} {P : Nat} {f s l : Int32} {m p c om op oc : Nat → Int32} (hP : P ≤ 256) (g : ¬ (rg_PG P s ∧ rg_LN P l)) (h : post (-1)) : wpY_findLow post (nI P, f, m, p, c, om, op, oc) s l := by
  refine br_c (fun _ => h) (fun k1 => br_c (fun _ => h) (fun k2 => br_c (fun _ => h) (fun k3 => br_c (fun k4 => absurd ?_ g) (fun _ => h))))
  rw [Int32.lt_iff_toInt_lt, rg_i0] at k1
  rw [Int32.le_iff_toInt_le, nI_toInt (by omega)] at k2
  rw [Int32.lt_iff_toInt_lt, rg_i1] at k3
  rw [Int32.le_iff_toInt_le, nI_toInt (by omega)] at k4
  exact ⟨⟨by omega, by omega⟩, ⟨by omega, by omega⟩⟩
theorem ry_fh {post : Int32 → Prop} {P x y : Nat} {f : Int32} {a b m p c om op oc : Nat → Int32} (hP : P ≤ 256) (hr : rg_R P a b m p c) (hx1 : 1 ≤ x) (hx2 : x ≤ P) (hy1 : 1 ≤ y) (hy2 : y ≤ P) (h : ∀ r, rg_FH a x y r → post r) : wpY_findHigh post (nI P, f, m, p, c, om, op, oc) (nI x) (nI y) := by
  refine br_f (nI_nlt (b := 1) (by omega) (by omega)) (pk_lt P x (fun z => absurd z (by omega)) (fun _ => br_f (nI_nlt (b := 1) (by omega) (by omega)) (br_t (nI_le hy2 (by omega)) ?_)))
  by_cases hxy : y ≤ x
  · refine nm_r (e' := nI (x - y + 1) - 1) ((pk_sub hxy).trans (nI_pred _).symm) ?_
    have key := pk_loopD (σ := Unit) (fun n i _ => wY_findHigh_32 post (nI y) (nI P) f m p c om op oc n (nI i - 1)) (fun i _ => i ≤ x - y + 1 ∧ ∀ t', i ≤ t' → t' + y ≤ x → ¬ rg_fr a t' y) (fun n _ hI => ?_) (fun n i _ hI hw => ?_) (x - y + 1) () ⟨Nat.le_refl _, fun t' h1 h2 => by omega⟩
    · exact ⟨_, key⟩
    · exact br_t (by decide) (h _ (Or.inr ⟨fun t' h1 => hI.2 t' (Nat.zero_le _) h1, rfl⟩))
    · have e0 : nI (i + 1) - 1 = nI i := nI_pred i
      have e2 : nI i + (-1) = nI i - 1 := by grind
      show wY_findHigh_32 post (nI y) (nI P) f m p c om op oc (n + 1) (nI (i + 1) - 1)
      rw [e0]
      have hle := rg_cn_le (rg_mp a) i y
      refine br_f (nI_pos (by omega)) (ry_cnt hP hr (by omega) (pk_eq (rg_cn (rg_mp a) i y) 0 (fun z => h _ (Or.inl ⟨i, by omega, rg_fr_cn.mp z, fun t' h1 h2 => hI.2 t' (by omega) h2, rfl⟩)) (fun z => nm_r e2 (hw () ⟨by omega, fun t' h1 h2 => ?_⟩))))
      by_cases e : t' = i
      · rw [e]; exact fun y => z (rg_fr_cn.mpr y)
      · exact hI.2 t' (by omega) h2
  · exact nm_e ⟨1, br_t (pk_sneg (by omega) (by omega)) (h _ (Or.inr ⟨fun t' h1 => by omega, rfl⟩))⟩
theorem ry_fh0 {post : Int32 → Prop} {P : Nat} {f s l : Int32} {m p c om op oc : Nat → Int32} (hP : P ≤ 256) (g : ¬ (rg_LN P s ∧ rg_LN P l)) (h : post (-1)) : wpY_findHigh post (nI P, f, m, p, c, om, op, oc) s l := by
  refine br_c (fun _ => h) (fun k1 => br_c (fun _ => h) (fun k2 => br_c (fun _ => h) (fun k3 => br_c (fun k4 => absurd ?_ g) (fun _ => h))))
  rw [Int32.lt_iff_toInt_lt, rg_i1] at k1
  rw [Int32.lt_iff_toInt_lt, nI_toInt (by omega)] at k2
  rw [Int32.lt_iff_toInt_lt, rg_i1] at k3
  rw [Int32.le_iff_toInt_le, nI_toInt (by omega)] at k4
  exact ⟨⟨by omega, by omega⟩, ⟨by omega, by omega⟩⟩
theorem ry_lg {post : Int32 → Prop} {P : Nat} {f : Int32} {a b m p c om op oc : Nat → Int32} (hP : P ≤ 256) (hr : rg_R P a b m p c) (h : ∀ L, rg_LG a P L → post (nI L)) : wpY_longestGap post (nI P, f, m, p, c, om, op, oc) := by
  refine pk_loop (fun n i L => wY_longestGap_4 post (nI P) f m p c om op oc n (nI L) (nI i)) (fun i L => L ≤ P ∧ rg_JG a P i L) P 0 0 (Nat.zero_le _) ⟨Nat.zero_le _, rg_JG_0 a P⟩ (fun n L hL => ?_) (fun n i L hi hL hw => ?_)
  · exact pk_le P P (fun _ => h _ (rg_JG_x hL.2)) (fun z => absurd z (by omega))
  · refine pk_le P i (fun z => absurd z (by omega)) (fun _ => ?_)
    have tl : ∀ q, rg_rud a P i q → wY_longestGap_45 post (wY_longestGap_4 post (nI P) f m p c om op oc n) (nI L) (nI i) (nI q) (nI P) f m p c om op oc := by
      intro q hq
      have hq1 := hq.1
      exact pk_le q L (fun z => nm_r (nI_1 i) (hw L ⟨hL.1, rg_JG_s hL.2 hq z⟩)) (fun z => nm_r (nI_1 i) (hw q ⟨by omega, rg_JG_g hL.2 hq z⟩))
    refine pk_loop (σ := Unit) (fun n' q _ => wY_longestGap_17 post (wY_longestGap_4 post (nI P) f m p c om op oc n) (nI L) (nI i) (nI P) f m p c om op oc n' (nI q) (nI (i + q))) (fun q _ => rg_fr a i q) (P - i) 0 () (Nat.zero_le _) (fun q h => by omega) (fun n' _ hI => ?_) (fun n' q _ hq hI hn => ?_)
    · exact pk_le P (i + (P - i)) (fun _ => tl _ ⟨by omega, hI, Or.inl (by omega)⟩) (fun z => absurd z (by omega))
    · refine pk_le P (i + q) (fun z => absurd z (by omega)) (fun _ => ⟨pk_in (i + q) 256 (by omega), br_c (fun z => ?_) (fun z => ?_)⟩)
      · rw [nI_clamp (show i + q < 2 ^ 31 by omega)] at z
        refine nm_r (nI_1 q) (nm_r (nI_1 (i + q)) (hn () (fun w hw => ?_)))
        by_cases e : w = q
        · rw [e]; exact rg_R_0 hr (by omega) z
        · exact hI w (by omega)
      · rw [nI_clamp (show i + q < 2 ^ 31 by omega)] at z
        exact tl q ⟨by omega, hI, Or.inr (rg_R_1 hr (by omega) z)⟩
