/-! the class, reading: one lemma a method, general post -/
theorem rg_10 : ¬ (1 : Int32) = 0 := by decide
theorem rg_k0 : ¬ (1024 : Int32) = 0 := by decide
theorem rx_isLength {post : Int32 → Prop} {P : Nat} {f : Int32} {a b d e : Nat → Int32} (hP : P ≤ 256) (l : Int32) (h1 : rg_LN P l → post 1) (h0 : ¬ rg_LN P l → post 0) : wpX_isLength post (nI P, f, a, b, d, e) l := by
  refine br_c (fun h => h0 ?_) (fun h => br_c (fun g => h0 ?_) (fun g => h1 ?_))
  · rw [Int32.lt_iff_toInt_lt, rg_i1] at h
    exact fun z => by have := z.1; omega
  · rw [Int32.lt_iff_toInt_lt, nI_toInt (by omega)] at g
    exact fun z => by have := z.2; omega
  · rw [Int32.lt_iff_toInt_lt, rg_i1] at h
    rw [Int32.lt_iff_toInt_lt, nI_toInt (by omega)] at g
    exact ⟨by omega, by omega⟩
theorem rx_isPage {post : Int32 → Prop} {P : Nat} {f : Int32} {a b d e : Nat → Int32} (hP : P ≤ 256) (l : Int32) (h1 : rg_PG P l → post 1) (h0 : ¬ rg_PG P l → post 0) : wpX_isPage post (nI P, f, a, b, d, e) l := by
  refine br_c (fun h => h0 ?_) (fun h => br_c (fun g => h0 ?_) (fun g => h1 ?_))
  · rw [Int32.lt_iff_toInt_lt, rg_i0] at h
    exact fun z => by have := z.1; omega
  · rw [Int32.le_iff_toInt_le, nI_toInt (by omega)] at g
    exact fun z => by have := z.2; omega
  · rw [Int32.lt_iff_toInt_lt, rg_i0] at h
    rw [Int32.le_iff_toInt_le, nI_toInt (by omega)] at g
    exact ⟨by omega, by omega⟩
theorem rx_range {post : Int32 → Prop} {P : Nat} {f : Int32} {a b d e : Nat → Int32} (hP : P ≤ 256) (s l : Int32) (h1 : rg_PR P s l → post 1) (h0 : ¬ rg_PR P s l → post 0) : wpX_isProperRange post (nI P, f, a, b, d, e) s l := by
  refine br_c (fun h => h0 ?_) (fun h => rx_isLength hP l (fun g => br_f rg_10 (br_c (fun k => h0 ?_) (fun k => h1 ?_))) (fun g => br_t rfl (h0 ?_)))
  · rw [Int32.lt_iff_toInt_lt, rg_i0] at h
    exact fun z => by have := z.1; omega
  · rw [Int32.lt_iff_toInt_lt, rg_sub hP g] at k
    exact fun z => by have := z.2.2; omega
  · rw [Int32.lt_iff_toInt_lt, rg_i0] at h
    rw [Int32.lt_iff_toInt_lt, rg_sub hP g] at k
    exact ⟨by omega, g.1, by omega⟩
  · rw [Int32.lt_iff_toInt_lt, rg_i0] at h
    exact fun z => g ⟨z.2.1, by have := z.2.2; omega⟩
theorem rx_prot {post : Int32 → Prop} (p : Int32) (h1 : rg_PT p → post 1) (h0 : ¬ rg_PT p → post 0) : wpX_isProperProt post () p := by
  refine br_c (fun h => h0 ?_) (fun h => br_c (fun g => h0 ?_) (fun g => h1 ?_))
  · rw [Int32.lt_iff_toInt_lt, rg_i0] at h
    exact fun z => by have := z.1; omega
  · rw [Int32.lt_iff_toInt_lt, rg_i7] at g
    exact fun z => by have := z.2; omega
  · rw [Int32.lt_iff_toInt_lt, rg_i0] at h
    rw [Int32.lt_iff_toInt_lt, rg_i7] at g
    exact ⟨by omega, by omega⟩
theorem rx_attr {post : Int32 → Prop} (l p b : Int32) (h1 : rg_PA l p b → post 1) (h0 : ¬ rg_PA l p b → post 0) : wpX_areProperAttributes post () l p b := by
  unfold wpX_areProperAttributes
  refine rx_prot p (fun g => br_f rg_10 (br_c (fun z => h1 ⟨g, Or.inl z⟩) (fun z => br_c (fun k => h0 ?_) (fun k => br_c (fun k2 => h0 ?_) (fun k2 => ⟨rg_k0, br_c (fun k3 => h0 ?_) (fun k3 => h1 ?_)⟩))))) (fun g => br_t rfl (h0 (fun z => g z.1)))
  · rw [Int32.lt_iff_toInt_lt, rg_i1024] at k
    rintro ⟨_, z2 | ⟨z3, _, _⟩⟩
    · exact z z2
    · omega
  · rw [Int32.lt_iff_toInt_lt, rg_i8191] at k2
    rintro ⟨_, z2 | ⟨_, z3, _⟩⟩
    · exact z z2
    · omega
  · rw [Int32.lt_iff_toInt_lt, rg_i1024] at k
    rw [Int32.lt_iff_toInt_lt, rg_i8191] at k2
    obtain ⟨c, hc, e1, e2⟩ := rg_rem (b := b) (by omega) (by omega)
    have e3 : (1024 : Int32) - nI c = nI (1024 - c) := by
      rw [rg_n1024]; exact pk_sub (by omega)
    rw [e1, e3, Int32.lt_iff_toInt_lt, nI_toInt (by omega)] at k3
    rintro ⟨_, z2 | ⟨_, _, z3⟩⟩
    · exact z z2
    · omega
  · rw [Int32.lt_iff_toInt_lt, rg_i1024] at k
    rw [Int32.lt_iff_toInt_lt, rg_i8191] at k2
    obtain ⟨c, hc, e1, e2⟩ := rg_rem (b := b) (by omega) (by omega)
    have e3 : (1024 : Int32) - nI c = nI (1024 - c) := by
      rw [rg_n1024]; exact pk_sub (by omega)
    rw [e1, e3, Int32.lt_iff_toInt_lt, nI_toInt (by omega)] at k3
    exact ⟨g, Or.inr ⟨by omega, by omega, by omega⟩⟩
theorem rx_cnt {post : Int32 → Prop} {P s l : Nat} {f : Int32} {a b d e : Nat → Int32} (hP : P ≤ 256) (hs : s + l ≤ P) (h : post (nI (rg_cn (rg_mp a) s l))) : wpX_countMapped post (nI P, f, a, b, d, e) (nI s) (nI l) :=
  pk_loop (fun n i c => wX_countMapped_5 post (nI s) (nI l) (nI P) f a b d e n (nI c) (nI (s + i))) (fun i c => c = rg_cn (rg_mp a) s i) l 0 0 (Nat.zero_le _) rfl
    (fun n c hc => pk_le (s + l) (s + l) (fun _ => by rw [hc]; exact h) (fun z => absurd z (by omega)) (hx := nI_add s l))
    (fun n i c hi hc hw => pk_le (s + l) (s + i) (fun z => absurd z (by omega)) (fun _ => ⟨pk_in (s + i) 256 (by omega), br_c
      (fun z => nm_r (nI_1 (s + i)) (hw c (by rw [nI_clamp (show s + i < 2 ^ 31 by omega)] at z; rw [rg_cn_f (rg_mp_f.mpr z)]; exact hc)))
      (fun z => nm_r (nI_1 c) (nm_r (nI_1 (s + i)) (hw (c + 1) (by rw [nI_clamp (show s + i < 2 ^ 31 by omega)] at z; rw [rg_cn_t (rg_mp_t.mpr z), hc]))))⟩) (hx := nI_add s l))
/-- what countMappedOutside counts -/
def rg_out (a : Nat → Int32) (s l j : Nat) : Bool := (decide (j < s) || decide (s + l ≤ j)) && rg_mp a j
theorem rx_out {post : Int32 → Prop} {P s l t : Nat} {f : Int32} {a b d e : Nat → Int32} (hP : P ≤ 256) (hs : s + l ≤ P) (ht : t + l ≤ P) (h : post (nI (rg_cn (rg_out a s l) t l))) : wpX_countMappedOutside post (nI P, f, a, b, d, e) (nI t) (nI s) (nI l) := by
  refine pk_loop (fun n i c => wX_countMappedOutside_6 post (nI t) (nI s) (nI l) (nI P) f a b d e n (nI c) (nI (t + i))) (fun i c => c = rg_cn (rg_out a s l) t i) l 0 0 (Nat.zero_le _) rfl
    (fun n c hc => pk_le (t + l) (t + l) (fun _ => by rw [hc]; exact h) (fun z => absurd z (by omega)) (hx := nI_add t l))
    (fun n i c hi hc hw => ?_)
  have hk := nI_clamp (show t + i < 2 ^ 31 by omega)
  have tl : (t + i < s ∨ s + l ≤ t + i) → wX_countMappedOutside_33 post (wX_countMappedOutside_6 post (nI t) (nI s) (nI l) (nI P) f a b d e n) (nI t) (nI s) (nI l) (nI c) (nI (t + i)) 1 (nI P) f a b d e := by
    intro ho
    have ho' : (decide (t + i < s) || decide (s + l ≤ t + i)) = true := by
      rcases ho with ho | ho
      · rw [decide_eq_true ho]; rfl
      · rw [decide_eq_true ho]; exact Bool.or_true _
    refine br_f rg_10 ⟨pk_in (t + i) 256 (by omega), br_c (fun z => nm_r (nI_1 (t + i)) (hw c ?_)) (fun z => nm_r (nI_1 c) (nm_r (nI_1 (t + i)) (hw (c + 1) ?_)))⟩
    · rw [hk] at z
      rw [rg_cn_f (by unfold rg_out; rw [rg_mp_f.mpr z]; exact Bool.and_false _)]
      exact hc
    · rw [hk] at z
      rw [rg_cn_t (by unfold rg_out; rw [rg_mp_t.mpr z, ho']; rfl), hc]
  refine pk_le (t + l) (t + i) (fun z => absurd z (by omega)) (fun _ => ?_) (hx := nI_add t l)
  refine pk_lt (t + i) s (fun z => tl (Or.inl z)) (fun z => ?_)
  refine pk_lt (t + i) (s + l) (fun y => br_t rfl (nm_r (nI_1 (t + i)) (hw c ?_))) (fun y => tl (Or.inr y)) (hy := nI_add s l)
  rw [rg_cn_f (by unfold rg_out; rw [decide_eq_false (by omega), decide_eq_false (by omega)]; rfl)]
  exact hc
theorem rx_co {post : Int32 → Prop} {j : Nat} {a b : Nat → Int32} (hj : j < 256) (h1 : rg_co a b j = true → post 1) (h0 : rg_co a b j = false → post 0) : wpX_continuesPrevious post (a, b) (nI j) := by
  by_cases hz : j = 0
  · subst hz
    exact br_t (by decide) (h0 (decide_eq_false (fun z => absurd z.1 (by omega))))
  have hn : ¬ nI j < 1 := nI_nlt (b := 1) (by omega) (by omega)
  have e1 : nI j - 1 = nI (j - 1) := pk_sub (a := j) (b := 1) (by omega)
  have tl : ¬ a j = -6 → a j = a (j - 1) → ¬ (b (j - 1) = 0 ∧ b j = 0) → wX_continuesPrevious_48 post (b (j - 1)) (b j) a b := by
    intro z k hq
    exact br_c (fun r => ⟨rg_k0, rg_k0, br_c (fun r2 => h1 (decide_eq_true ⟨by omega, z, k, Or.inr ⟨r, r2⟩⟩)) (fun r2 => h0 (decide_eq_false (fun t => t.2.2.2.elim hq (fun y => r2 y.2))))⟩) (fun r => h0 (decide_eq_false (fun t => t.2.2.2.elim hq (fun y => r y.1))))
  unfold wpX_continuesPrevious
  dsimp only
  rw [e1, nI_clamp (show j < 2 ^ 31 by omega), nI_clamp (show j - 1 < 2 ^ 31 by omega)]
  exact br_f hn ⟨pk_in j 256 hj, br_c (fun z => h0 (decide_eq_false (fun t => t.2.1 z))) (fun z => ⟨pk_in j 256 hj, pk_in (j - 1) 256 (by omega), br_c (fun k => ⟨pk_in (j - 1) 256 (by omega), nm_e ⟨pk_in j 256 hj, nm_e (br_c (fun q => br_c (fun q2 => h1 (decide_eq_true ⟨by omega, z, k, Or.inl ⟨q, q2⟩⟩)) (fun q2 => tl z k (fun y => q2 y.2))) (fun q => tl z k (fun y => q y.1)))⟩⟩) (fun k => h0 (decide_eq_false (fun t => k t.2.2.1)))⟩)⟩
theorem rx_st {post : Int32 → Prop} {j : Nat} {a b : Nat → Int32} (hj : j < 256) (h1 : rg_st a b j = true → post 1) (h0 : rg_st a b j = false → post 0) : wpX_startsRegion post (a, b) (nI j) := by
  unfold wpX_startsRegion
  dsimp only
  rw [nI_clamp (show j < 2 ^ 31 by omega)]
  refine ⟨pk_in j 256 hj, br_c (fun z => h0 ?_) (fun z => rx_co hj (fun k => br_f rg_10 (h0 ?_)) (fun k => br_t rfl (h1 ?_)))⟩
  · unfold rg_st; rw [rg_mp_f.mpr z]; rfl
  · unfold rg_st; rw [k]; exact Bool.and_false _
  · unfold rg_st; rw [rg_mp_t.mpr z, k]; rfl
theorem rx_ctA {post : Int32 → Prop} {P : Nat} {f : Int32} {a b d e : Nat → Int32} (hP : P ≤ 256) (h : post (nI (rg_cn (rg_st a b) 0 P))) : wpX_countRegions post (nI P, f, a, b, d, e) :=
  pk_loop (fun n i c => wX_countRegions_5 post (nI P) f a b d e n (nI c) (nI i)) (fun i c => c = rg_cn (rg_st a b) 0 i) P 0 0 (Nat.zero_le _) rfl
    (fun n c hc => pk_le P P (fun _ => by rw [hc]; exact h) (fun z => absurd z (by omega)))
    (fun n i c hi hc hw => pk_le P i (fun z => absurd z (by omega)) (fun _ => rx_st (by omega)
      (fun k => br_f rg_10 (nm_r (nI_1 c) (nm_r (nI_1 i) (hw (c + 1) (by rw [rg_cn_t (by rw [Nat.zero_add]; exact k), hc])))))
      (fun k => br_t rfl (nm_r (nI_1 i) (hw c (by rw [rg_cn_f (by rw [Nat.zero_add]; exact k)]; exact hc))))))
theorem rx_ctD {post : Int32 → Prop} {P : Nat} {f : Int32} {a b d e : Nat → Int32} (hP : P ≤ 256) (h : post (nI (rg_cn (rg_st d e) 0 P))) : wpX_countRegions_2 post (nI P, f, a, b, d, e) :=
  pk_loop (fun n i c => wX_countRegions_2_5 post (nI P) f a b d e n (nI c) (nI i)) (fun i c => c = rg_cn (rg_st d e) 0 i) P 0 0 (Nat.zero_le _) rfl
    (fun n c hc => pk_le P P (fun _ => by rw [hc]; exact h) (fun z => absurd z (by omega)))
    (fun n i c hi hc hw => pk_le P i (fun z => absurd z (by omega)) (fun _ => rx_st (by omega)
      (fun k => br_f rg_10 (nm_r (nI_1 c) (nm_r (nI_1 i) (hw (c + 1) (by rw [rg_cn_t (by rw [Nat.zero_add]; exact k), hc])))))
      (fun k => br_t rfl (nm_r (nI_1 i) (hw c (by rw [rg_cn_f (by rw [Nat.zero_add]; exact k)]; exact hc))))))
theorem rx_rs {post : Int32 → Prop} {P : Nat} {f k : Int32} {a b d e : Nat → Int32} (hP : P ≤ 256) (h : ∀ r, rg_RS (rg_st a b) P k r → post r) : wpX_regionStart post (nI P, f, a, b, d, e) k :=
  pk_loop (fun n i c => wX_regionStart_4 post k (nI P) f a b d e n (nI c) (nI i)) (fun i c => c = rg_cn (rg_st a b) 0 i ∧ rg_IS (rg_st a b) i k) P 0 0 (Nat.zero_le _) ⟨rfl, rg_IS_0 _ _⟩
    (fun n c hc => pk_le P P (fun _ => h _ (rg_IS_x hc.2)) (fun z => absurd z (by omega)))
    (fun n i c hi hc hw => pk_le P i (fun z => absurd z (by omega)) (fun _ => rx_st (by omega)
      (fun y => br_f rg_10 (br_c (fun q => h _ (rg_IS_r hc.2 hi y (by rw [← hc.1]; exact q)))
        (fun q => nm_r (nI_1 c) (nm_r (nI_1 i) (hw (c + 1) ⟨by rw [rg_cn_t (by rw [Nat.zero_add]; exact y), hc.1], rg_IS_n hc.2 (by rw [← hc.1]; exact q)⟩)))))
      (fun y => br_t rfl (nm_r (nI_1 i) (hw c ⟨by rw [rg_cn_f (by rw [Nat.zero_add]; exact y)]; exact hc.1, rg_IS_m hc.2 y⟩)))))
theorem rg_0le {n : Nat} (h : n < 2 ^ 31) : (0 : Int32) ≤ nI n := nI_pos' h
theorem rx_rl {post : Int32 → Prop} {P : Nat} {f k : Int32} {a b d e : Nat → Int32} (hP : P ≤ 256) (h0 : rg_RS (rg_st a b) P k (-1) → post (-1)) (h1 : ∀ t l, t < P → rg_RS (rg_st a b) P k (nI t) → rg_RL (rg_co a b) P t l → post (nI l)) : wpX_regionLength post (nI P, f, a, b, d, e) k := by
  unfold wpX_regionLength
  dsimp only
  refine rx_rs hP (fun r hr => ?_)
  rcases hr with ⟨t, g1, g2, g3, g4, rfl⟩ | ⟨g1, rfl⟩
  · have hr : rg_RS (rg_st a b) P k (nI t) := Or.inl ⟨t, g1, g2, g3, g4, rfl⟩
    refine br_t (rg_0le (by omega)) (nm_r (nI_1 t) ?_)
    have e1 : ∀ i, nI (t + 1 + i) - nI t = nI (1 + i) := fun i => by rw [pk_sub (by omega)]; exact congrArg nI (by omega)
    refine pk_loop (σ := Unit) (fun n i _ => wX_regionLength_16 post (nI t) (nI P) f a b d e n (nI (t + 1 + i))) (fun i _ => ∀ q, 1 ≤ q → q < 1 + i → rg_co a b (t + q) = true) (P - t - 1) 0 () (Nat.zero_le _) (fun q q1 q2 => by omega) (fun n _ hI => ?_) (fun n i _ hi hI hw => ?_)
    · refine pk_le P (t + 1 + (P - t - 1)) (fun _ => ?_) (fun z => absurd z (by omega))
      rw [e1]
      exact h1 t _ g1 hr ⟨by omega, by omega, hI, Or.inl (by omega)⟩
    · refine pk_le P (t + 1 + i) (fun z => absurd z (by omega)) (fun _ => rx_co (by omega) (fun y => br_f rg_10 (nm_r (nI_1 (t + 1 + i)) (hw () ?_))) (fun y => br_t rfl ?_))
      · intro q q1 q2
        by_cases e : q = 1 + i
        · rw [e, show t + (1 + i) = t + 1 + i from by omega]; exact y
        · exact hI q q1 (by omega)
      · rw [e1]
        exact h1 t _ g1 hr ⟨by omega, by omega, hI, Or.inr (by rw [show t + (1 + i) = t + 1 + i from by omega]; exact y)⟩
  · exact br_f (by decide) (h0 (Or.inr ⟨g1, rfl⟩))
theorem rx_fl {post : Int32 → Prop} {P : Nat} {f s l : Int32} {a b d e : Nat → Int32} (hP : P ≤ 256) (h0 : ¬ (rg_PG P s ∧ rg_LN P l) → post (-1)) (h1 : ∀ x y r, s = nI x → l = nI y → x < P → 1 ≤ y → y ≤ P → rg_FL a P x y r → post r) : wpX_findLow post (nI P, f, a, b, d, e) s l := by
  unfold wpX_findLow
  dsimp only
  refine rx_isPage hP s (fun g => br_f rg_10 (rx_isLength hP l (fun k => br_f rg_10 ?_) (fun k => br_t rfl (h0 (fun z => k z.2))))) (fun g => br_t rfl (h0 (fun z => g z.1)))
  obtain ⟨x, rfl, hx⟩ := rg_PG_n g
  obtain ⟨y, rfl, hy1, hy2⟩ := rg_LN_n k
  refine Exists.elim (pk_loop (fun n i r => wX_findLow_23 post (nI y) (nI P) f a b d e n (nI r) (nI i)) (fun i r => x ≤ i ∧ rg_IL a x y i r) P x 0 (by omega) ⟨Nat.le_refl _, rg_IL_0 a hy1⟩ (fun n r hr => ?_) (fun n i r hi hr hw => ?_)) (fun n hn => ⟨n, hn⟩)
  · exact pk_le P P (fun _ => h1 x y _ rfl rfl hx hy1 hy2 (rg_IL_x hr.2)) (fun z => absurd z (by omega))
  · have hle := hr.2.1.1
    refine pk_le P i (fun z => absurd z (by omega)) (fun _ => ⟨pk_in i 256 (by omega), br_c (fun z => ?_) (fun z => ?_)⟩)
    · rw [nI_clamp (show i < 2 ^ 31 by omega)] at z
      rw [nI_1]
      refine pk_eq (r + 1) y (fun q => ?_) (fun q => nm_r (nI_1 i) (hw (r + 1) ⟨by omega, rg_IL_f hr.2 z q⟩))
      obtain ⟨w1, w2⟩ := rg_IL_r hr.2 z q hi
      have e1 : nI i - nI y + 1 = nI (i + 1 - y) := by
        have : nI i - nI y + 1 = nI i + 1 - nI y := by grind
        rw [this, nI_1, pk_sub w1]
      rw [e1]
      exact h1 x y _ rfl rfl hx hy1 hy2 w2
    · rw [nI_clamp (show i < 2 ^ 31 by omega)] at z
      refine pk_eq 0 y (fun q => absurd q (by omega)) (fun q => nm_r (nI_1 i) (hw 0 ⟨by omega, rg_IL_m hr.2 z hy1⟩))
theorem rx_fh {post : Int32 → Prop} {P : Nat} {f s l : Int32} {a b d e : Nat → Int32} (hP : P ≤ 256) (h0 : ¬ (rg_LN P s ∧ rg_LN P l) → post (-1)) (h1 : ∀ x y r, s = nI x → l = nI y → 1 ≤ x → x ≤ P → 1 ≤ y → y ≤ P → rg_FH a x y r → post r) : wpX_findHigh post (nI P, f, a, b, d, e) s l := by
  unfold wpX_findHigh
  dsimp only
  refine rx_isLength hP s (fun g => br_f rg_10 (rx_isLength hP l (fun k => br_f rg_10 ?_) (fun k => br_t rfl (h0 (fun z => k z.2))))) (fun g => br_t rfl (h0 (fun z => g z.1)))
  obtain ⟨x, rfl, hx1, hx2⟩ := rg_LN_n g
  obtain ⟨y, rfl, hy1, hy2⟩ := rg_LN_n k
  refine nm_e ?_
  have key := pk_loopD (fun n i r => wX_findHigh_25 post (nI y) (nI P) f a b d e n (nI r) (nI i - 1)) (fun i r => i ≤ x ∧ rg_IH a x y i r) (fun n r hr => ?_) (fun n i r hr hw => ?_) x 0 ⟨Nat.le_refl _, rg_IH_0 a hy1⟩
  · exact ⟨_, key⟩
  · exact br_t (by decide) (h1 x y _ rfl rfl hx1 hx2 hy1 hy2 (rg_IH_x hr.2))
  · have e0 : nI (i + 1) - 1 = nI i := nI_pred i
    have e2 : nI i + (-1) = nI i - 1 := by grind
    show wX_findHigh_25 post (nI y) (nI P) f a b d e (n + 1) (nI r) (nI (i + 1) - 1)
    rw [e0]
    refine br_f (nI_pos (by omega)) ⟨pk_in i 256 (by omega), br_c (fun z => ?_) (fun z => ?_)⟩
    · rw [nI_clamp (show i < 2 ^ 31 by omega)] at z
      rw [nI_1]
      have hle := hr.2.1.1
      exact pk_eq (r + 1) y (fun q => h1 x y _ rfl rfl hx1 hx2 hy1 hy2 (rg_IH_r hr.2 z q)) (fun q => nm_r e2 (hw (r + 1) ⟨by omega, rg_IH_f hr.2 z q⟩))
    · rw [nI_clamp (show i < 2 ^ 31 by omega)] at z
      exact pk_eq 0 y (fun q => absurd q (by omega)) (fun q => nm_r e2 (hw 0 ⟨by omega, rg_IH_m hr.2 z hy1⟩))
