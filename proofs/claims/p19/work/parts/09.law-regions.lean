/-! regions: the law's last two loops -/
theorem rg_cn_mono {p : Nat → Bool} {s m n : Nat} (h : m ≤ n) : rg_cn p s m ≤ rg_cn p s n := by
  induction n with
  | zero => rw [Nat.le_zero.mp h]; exact Nat.le_refl _
  | succ n ih =>
    by_cases e : m = n + 1
    · rw [e]; exact Nat.le_refl _
    · have := ih (by omega)
      rw [show rg_cn p s (n + 1) = rg_cn p s n + (if p (s + n) = true then 1 else 0) from rfl]
      omega
theorem rg_cn_st {p : Nat → Bool} {t : Nat} (h : p t = true) : rg_cn p 0 (t + 1) = rg_cn p 0 t + 1 := rg_cn_t (by rw [Nat.zero_add]; exact h)
theorem rg_cn_sf {p : Nat → Bool} {t : Nat} (h : p t = false) : rg_cn p 0 (t + 1) = rg_cn p 0 t := rg_cn_f (by rw [Nat.zero_add]; exact h)
theorem rg_nth {p : Nat → Bool} {P k : Nat} (h : k < rg_cn p 0 P) : ∃ t, t < P ∧ p t = true ∧ rg_cn p 0 t = k := by
  induction P with
  | zero => rw [rg_cn_0] at h; omega
  | succ P ih =>
    by_cases hk : k < rg_cn p 0 P
    · obtain ⟨t, h1, h2, h3⟩ := ih hk
      exact ⟨t, by omega, h2, h3⟩
    · by_cases hp : p P = true
      · rw [rg_cn_st hp] at h
        exact ⟨P, by omega, hp, by omega⟩
      · rw [rg_cn_sf (Bool.eq_false_iff.mpr hp)] at h
        omega
theorem rg_st_u {p : Nat → Bool} {t t' : Nat} (h1 : p t = true) (h2 : p t' = true) (e : rg_cn p 0 t = rg_cn p 0 t') : t = t' := by
  rcases Nat.lt_trichotomy t t' with g | g | g
  · have := rg_cn_mono (p := p) (s := 0) (show t + 1 ≤ t' by omega)
    rw [rg_cn_st h1] at this
    omega
  · exact g
  · have := rg_cn_mono (p := p) (s := 0) (show t' + 1 ≤ t by omega)
    rw [rg_cn_st h2] at this
    omega
theorem rg_RS_k {p : Nat → Bool} {P k : Nat} {r : Int32} (hP : P ≤ 256) (h : rg_RS p P (nI k) r) (hk : k < rg_cn p 0 P) : ∃ t, t < P ∧ p t = true ∧ rg_cn p 0 t = k ∧ r = nI t := by
  have hle := rg_cn_le p 0 P
  rcases h with ⟨t, h1, h2, h3, h4, rfl⟩ | ⟨h1, rfl⟩
  · have := rg_cn_le p 0 t
    exact ⟨t, h1, h2, (nI_eq (by omega) (by omega)).mp h3, rfl⟩
  · obtain ⟨t, g1, g2, g3⟩ := rg_nth hk
    exact absurd (by rw [g3]) (h1 t g1 g2)
/-- region k: first page t, l pages -/
def lq_G (P : Nat) (a b : Nat → Int32) (k t l : Nat) : Prop := t < P ∧ rg_st a b t = true ∧ rg_cn (rg_st a b) 0 t = k ∧ rg_RL (rg_co a b) P t l
theorem lr_m1 {t P : Nat} (hP : P ≤ 256) (ht : t < P) : ¬ (-1 : Int32) = nI t := fun z => by
  have h := congrArg Int32.toInt z
  rw [nI_toInt (by omega), show (-1 : Int32).toInt = -1 from by decide] at h
  omega
theorem rx_rs1 {post : Int32 → Prop} {P k : Nat} {f1 : Int32} {a b d e : Nat → Int32} (hP : P ≤ 256) (hk : k < rg_cn (rg_st a b) 0 P) (h : ∀ t, t < P → rg_st a b t = true → rg_cn (rg_st a b) 0 t = k → post (nI t)) : wpX_regionStart post (nI P, f1, a, b, d, e) (nI k) :=
  rx_rs hP (fun r hr => by
    obtain ⟨t, h1, h2, h3, rfl⟩ := rg_RS_k hP hr hk
    exact h t h1 h2 h3)
theorem rx_reg {post : Int32 → Int32 → Prop} {P k : Nat} {f1 : Int32} {a b d e : Nat → Int32} (hP : P ≤ 256) (hk : k < rg_cn (rg_st a b) 0 P) (h : ∀ t l, lq_G P a b k t l → post (nI t) (nI l)) : wpX_regionStart (fun r => wpX_regionLength (fun r2 => post r r2) (nI P, f1, a, b, d, e) (nI k)) (nI P, f1, a, b, d, e) (nI k) :=
  rx_rs1 hP hk (fun t h1 h2 h3 => rx_rl hP
    (fun h0 => by
      obtain ⟨t', g1, g2, g3, g4⟩ := rg_RS_k hP h0 hk
      exact absurd g4 (lr_m1 hP g1))
    (fun t' l ht' g1 g2 => by
      obtain ⟨t'', k1, k2, k3, k4⟩ := rg_RS_k hP g1 hk
      have e1 : t' = t'' := (nI_eq (by omega) (by omega)).mp k4
      have e2 : t = t'' := rg_st_u h2 k2 (by rw [h3, k3])
      have e3 : t' = t := by rw [e1, e2]
      rw [e3] at g2
      exact h t l ⟨h1, h2, h3, g2⟩))
theorem lq_co_st {a b : Nat → Int32} {j : Nat} (h : rg_co a b j = true) : rg_st a b j = false := by
  unfold rg_st; rw [h]; exact Bool.and_false _
theorem lq_co_x {a b : Nat → Int32} {j : Nat} (h : rg_co a b j = true) : 1 ≤ j ∧ ¬ a j = -6 ∧ ¬ a (j - 1) = -6 := by
  have h := of_decide_eq_true h
  exact ⟨h.1, h.2.1, by rw [← h.2.2.1]; exact h.2.1⟩
theorem lq_st_m {a b : Nat → Int32} {j : Nat} (h : rg_st a b j = true) : ¬ a j = -6 := by
  intro z
  unfold rg_st at h
  rw [rg_mp_f.mpr z] at h
  exact absurd h Bool.false_ne_true
theorem lq_st_c {a b : Nat → Int32} {j : Nat} (h : ¬ a j = -6) (hc : rg_co a b j = false) : rg_st a b j = true := by
  unfold rg_st; rw [rg_mp_t.mpr h, hc]; rfl
theorem lq_st_f {a b : Nat → Int32} {j : Nat} (h : a j = -6) : rg_st a b j = false := by
  unfold rg_st; rw [rg_mp_f.mpr h]; rfl
theorem lq_last {a b : Nat → Int32} {p : Nat} (h : ¬ a p = -6) : ∃ t, t ≤ p ∧ rg_st a b t = true ∧ rg_cn (rg_st a b) 0 t + 1 = rg_cn (rg_st a b) 0 (p + 1) ∧ ∀ q, t < q → q ≤ p → rg_co a b q = true := by
  induction p with
  | zero =>
    have hc : rg_co a b 0 = false := decide_eq_false (fun z => absurd z.1 (by omega))
    have hs := lq_st_c h hc
    exact ⟨0, Nat.le_refl _, hs, by rw [rg_cn_st hs], fun q h1 h2 => by omega⟩
  | succ p ih =>
    by_cases hc : rg_co a b (p + 1) = true
    · obtain ⟨t, h1, h2, h3, h4⟩ := ih (lq_co_x hc).2.2
      refine ⟨t, by omega, h2, by rw [rg_cn_sf (lq_co_st hc)]; exact h3, fun q g1 g2 => ?_⟩
      by_cases e : q = p + 1
      · rw [e]; exact hc
      · exact h4 q g1 (by omega)
    · have hs := lq_st_c h (Bool.eq_false_iff.mpr hc)
      exact ⟨p + 1, Nat.le_refl _, hs, by rw [rg_cn_st hs], fun q h1 h2 => by omega⟩
theorem lq_next {P : Nat} {a b : Nat → Int32} {k t l t2 : Nat} (h : lq_G P a b k t l) (h2 : rg_st a b t2 = true) (h3 : rg_cn (rg_st a b) 0 t2 = k + 1) : t + l ≤ t2 := by
  obtain ⟨g1, g2, g3, g4, g5, g6, g7⟩ := h
  have ht : t < t2 := by
    by_cases e : t < t2
    · exact e
    · have := rg_cn_mono (p := rg_st a b) (s := 0) (show t2 ≤ t by omega)
      omega
  by_cases e : t + l ≤ t2
  · exact e
  · have := g6 (t2 - t) (by omega) (by omega)
    rw [show t + (t2 - t) = t2 from by omega] at this
    rw [lq_co_st this] at h2
    exact absurd h2 Bool.false_ne_true
theorem lr_pO {post : Int32 → Prop} {P p : Nat} {f1 : Int32} {a b d e : Nat → Int32} (hP : P ≤ 256) (hp : p < P) (h : post (a p)) : wpX_protOf post (nI P, f1, a, b, d, e) (nI p) :=
  rx_protOf hP (fun x ex hx => by
    have ex : p = x := (nI_eq (by omega) (by omega)).mp ex
    subst ex; exact h) (fun g => absurd (rg_PG_i hP hp) g)
theorem lr_bO {post : Int32 → Prop} {P p : Nat} {f1 : Int32} {a b d e : Nat → Int32} (hP : P ≤ 256) (hp : p < P) (h : post (b p)) : wpX_backingOf post (nI P, f1, a, b, d, e) (nI p) :=
  rx_backingOf hP (fun x ex hx => by
    have ex : p = x := (nI_eq (by omega) (by omega)).mp ex
    subst ex; exact h) (fun g => absurd (rg_PG_i hP hp) g)
theorem lr_cont {post : Int32 → Prop} {P p : Nat} {a b : Nat → Int32} {pp pb : Int32} (hV : lq_V P a b) (hp : p < P) (hm : ¬ a p = -6) (hprev : (p = 0 ∧ pp = -1) ∨ (1 ≤ p ∧ pp = a (p - 1) ∧ pb = b (p - 1))) (h1 : rg_co a b p = true → post 1) (h0 : rg_co a b p = false → post 0) : wpL_continues post () pp pb (a p) (b p) := by
  rcases hprev with ⟨rfl, rfl⟩ | ⟨h, rfl, rfl⟩
  · exact br_t (by decide) (h0 (decide_eq_false (fun z => absurd z.1 (by omega))))
  · have vb : rg_BK (b p) := by
      rcases hV p hp with z | z
      · exact absurd z.1 hm
      · exact z.2
    refine br_c (fun z => h0 ?_) (fun z => br_c (fun k => ?_) (fun k => h0 (decide_eq_false (fun t => k t.2.2.1.symm))))
    · refine decide_eq_false (fun t => ?_)
      rcases hV (p - 1) (by omega) with ⟨w, _⟩ | ⟨w, _⟩
      · exact t.2.1 (t.2.2.1.trans w)
      · rw [Int32.lt_iff_toInt_lt, rg_i0] at z
        have := w.1
        omega
    · have hm1 : ¬ a (p - 1) = -6 := by rw [k]; exact hm
      have vb1 : rg_BK (b (p - 1)) := by
        rcases hV (p - 1) (by omega) with z | z
        · exact absurd z.1 hm1
        · exact z.2
      have tl : ¬ (b (p - 1) = 0 ∧ b p = 0) → wL_continues_17 post (b (p - 1)) (b p) := by
        intro hq
        refine br_c (fun r => h0 (decide_eq_false (fun t => t.2.2.2.elim hq (fun y => ?_)))) (fun r => br_c (fun r2 => ⟨rg_k0, rg_k0, br_c (fun r3 => h1 (decide_eq_true ⟨h, hm, k.symm, Or.inr ⟨r2, r3⟩⟩)) (fun r3 => h0 (decide_eq_false (fun t => t.2.2.2.elim hq (fun y => r3 y.2))))⟩) (fun r2 => h0 (decide_eq_false (fun t => t.2.2.2.elim hq (fun y => r2 y.1)))))
        rw [Int32.lt_iff_toInt_lt, rg_i1024] at r
        rcases vb1 with w | w
        · rw [w] at y
          rcases vb with v | v
          · exact hq ⟨w, v⟩
          · rw [y.1] at v
            exact absurd v.1 (by decide)
        · omega
      exact br_c (fun q => br_c (fun q2 => h1 (decide_eq_true ⟨h, hm, k.symm, Or.inl ⟨q, q2⟩⟩)) (fun q2 => tl (fun y => q2 y.2))) (fun q => tl (fun y => q y.1))
theorem lr_out {post : Int32 → Prop} {L : Nat} {xs : Nat → Int32} {J : Int32 → Int32 → Int32 → Nat → Nat → Int32 → Int32 → (Nat → Int32) → (Nat → Int32) → (Nat → Int32) → (Nat → Int32) → Int32 → Int32 → (Nat → Int32) → (Nat → Int32) → (Nat → Int32) → (Nat → Int32) → Prop} {kc ks P : Nat} {f1 g0 g1 : Int32} {a b d e a2 b2 d2 e2 : Nat → Int32} {K : Int32 → Int32 → Int32 → Int32 → Prop} {x4 x7 x28 x29 x30 x31 : Int32} {p : Nat} (hP : P ≤ 256) (hp : p < P) (hf : a p = -6 ∧ b p = -6) (hK : K x29 (a p) (b p) (nI (p + 1))) : wL_law_1503 post L xs J K (nI P) x4 x7 x28 x29 x30 x31 (nI p) 0 kc ks (nI P) f1 a b d e g0 g1 a2 b2 d2 e2 := by
  unfold wL_law_1503
  refine lr_pO hP hp (lr_bO hP hp ?_)
  rw [hf.1, hf.2] at hK ⊢
  exact br_t (by decide) (br_t rfl (br_t (by decide) (br_t rfl (br_t rfl (nm_r (nI_1 p) hK)))))
theorem lr_in {post : Int32 → Prop} {L : Nat} {xs : Nat → Int32} {J : Int32 → Int32 → Int32 → Nat → Nat → Int32 → Int32 → (Nat → Int32) → (Nat → Int32) → (Nat → Int32) → (Nat → Int32) → Int32 → Int32 → (Nat → Int32) → (Nat → Int32) → (Nat → Int32) → (Nat → Int32) → Prop} {kc ks P : Nat} {f1 g0 g1 : Int32} {a b d e a2 b2 d2 e2 : Nat → Int32} {K : Int32 → Int32 → Int32 → Int32 → Prop} {x4 x7 x28 x30 x31 : Int32} {p k : Nat} (hP : P ≤ 256) (hV : lq_V P a b) (hp : p < P) (hm : ¬ a p = -6) (hprev : (p = 0 ∧ x30 = -1) ∨ (1 ≤ p ∧ x30 = a (p - 1) ∧ x31 = b (p - 1))) (hk : k < rg_cn (rg_st a b) 0 P) (hc : rg_co a b p = false → k = rg_cn (rg_st a b) 0 p) (hK : K (nI k) (a p) (b p) (nI (p + 1))) : wL_law_1503 post L xs J K (nI P) x4 x7 x28 (nI k) x30 x31 (nI p) 1 kc ks (nI P) f1 a b d e g0 g1 a2 b2 d2 e2 := by
  unfold wL_law_1503
  have v : rg_PT (a p) ∧ rg_BK (b p) := by
    rcases hV p hp with z | z
    · exact absurd z.1 hm
    · exact z
  have va : ¬ a p < 0 := by
    rw [Int32.lt_iff_toInt_lt, rg_i0]
    have := v.1.1
    omega
  have vb : ¬ b p < 0 := by
    rw [Int32.lt_iff_toInt_lt, rg_i0]
    rcases v.2 with w | w
    · rw [w, rg_i0]; omega
    · omega
  refine lr_pO hP hp (lr_bO hP hp (br_f va (br_t rfl (br_f vb (br_t rfl (br_f rg_10 ?_))))))
  refine lr_cont hV hp hm hprev (fun co => rx_rs1 hP hk (fun t h1 h2 h3 => pk_eq p t (fun z => ?_) (fun z => br_f rg_10 (nm_r (nI_1 p) hK)))) (fun co => rx_rs1 hP hk (fun t h1 h2 h3 => pk_eq p t (fun z => br_f (by decide) (nm_r (nI_1 p) hK)) (fun z => ?_)))
  · rw [← z, lq_co_st co] at h2
    exact absurd h2 Bool.false_ne_true
  · exact absurd (rg_st_u (lq_st_c hm co) h2 (by rw [h3, hc co])) z
theorem lr_1479 {post : Int32 → Prop} {L : Nat} {xs : Nat → Int32} {J : Int32 → Int32 → Int32 → Nat → Nat → Int32 → Int32 → (Nat → Int32) → (Nat → Int32) → (Nat → Int32) → (Nat → Int32) → Int32 → Int32 → (Nat → Int32) → (Nat → Int32) → (Nat → Int32) → (Nat → Int32) → Prop} {kc ks P : Nat} {f1 g0 g1 : Int32} {a b d e a2 b2 d2 e2 : Nat → Int32} {K : Int32 → Int32 → Int32 → Int32 → Prop} {x4 x7 x30 x31 : Int32} {p : Nat} (hP : P ≤ 256) (hV : lq_V P a b) (hp : p < P) (hprev : (p = 0 ∧ x30 = -1) ∨ (1 ≤ p ∧ x30 = a (p - 1) ∧ x31 = b (p - 1))) (hco : rg_co a b p = false) (hK : K (nI (rg_cn (rg_st a b) 0 p)) (a p) (b p) (nI (p + 1))) : wL_law_1479 post L xs J K (nI P) x4 x7 (nI (rg_cn (rg_st a b) 0 P)) (nI (rg_cn (rg_st a b) 0 p)) x30 x31 (nI p) kc ks (nI P) f1 a b d e g0 g1 a2 b2 d2 e2 := by
  have hle := rg_cn_le (rg_st a b) 0 P
  have hlp := rg_cn_le (rg_st a b) 0 p
  have hfree : a p = -6 → a p = -6 ∧ b p = -6 := fun z => by
    rcases hV p hp with w | w
    · exact w
    · exact absurd z (rg_PT_6 w.1)
  refine pk_le (rg_cn (rg_st a b) 0 P) (rg_cn (rg_st a b) 0 p) (fun z => ?_) (fun z => rx_rs1 hP z (fun t h1 h2 h3 => ?_))
  · by_cases hm : a p = -6
    · exact lr_out hP hp (hfree hm) hK
    · have := rg_cn_mono (p := rg_st a b) (s := 0) (show p + 1 ≤ P by omega)
      rw [rg_cn_st (lq_st_c hm hco)] at this
      omega
  · refine pk_lt p t (fun y => ?_) (fun y => ?_)
    · by_cases hm : a p = -6
      · exact lr_out hP hp (hfree hm) hK
      · exact absurd (rg_st_u (lq_st_c hm hco) h2 h3.symm) (by omega)
    · have et : t = p := by
        by_cases e : t = p
        · exact e
        · have := rg_cn_mono (p := rg_st a b) (s := 0) (show t + 1 ≤ p by omega)
          rw [rg_cn_st h2] at this
          omega
      rw [et] at h2
      exact lr_in hP hV hp (lq_st_m h2) hprev z (fun _ => rfl) hK
/-- the last loop's state at page p -/
def lr_I (a b : Nat → Int32) (p : Nat) (s : Nat × Int32 × Int32) : Prop := (p = 0 ∧ s.1 = 0 ∧ s.2.1 = -1 ∧ s.2.2 = -1) ∨ (1 ≤ p ∧ s.2.1 = a (p - 1) ∧ s.2.2 = b (p - 1) ∧ ((a (p - 1) = -6 ∧ s.1 = rg_cn (rg_st a b) 0 p) ∨ (¬ a (p - 1) = -6 ∧ s.1 + 1 = rg_cn (rg_st a b) 0 p)))
theorem lr_I_s {P : Nat} {a b : Nat → Int32} {p k : Nat} (hc : rg_co a b p = false) (hk : k = rg_cn (rg_st a b) 0 p) : lr_I a b (p + 1) (k, a p, b p) := by
  refine Or.inr ⟨by omega, rfl, rfl, ?_⟩
  by_cases hm : a p = -6
  · exact Or.inl ⟨hm, by rw [rg_cn_sf (lq_st_f hm)]; exact hk⟩
  · exact Or.inr ⟨hm, by rw [rg_cn_st (lq_st_c hm hc), ← hk]⟩
theorem lr_1443 {post : Int32 → Prop} {L : Nat} {xs : Nat → Int32} {J : Int32 → Int32 → Int32 → Nat → Nat → Int32 → Int32 → (Nat → Int32) → (Nat → Int32) → (Nat → Int32) → (Nat → Int32) → Int32 → Int32 → (Nat → Int32) → (Nat → Int32) → (Nat → Int32) → (Nat → Int32) → Prop} {kc ks P : Nat} {f1 g0 g1 : Int32} {a b d e a2 b2 d2 e2 : Nat → Int32} {x4 x7 : Int32} (hP : P ≤ 256) (hV : lq_V P a b) (h0 : x7 = 0 → J (nI P) x4 2 kc ks (nI P) f1 a b d e g0 g1 a2 b2 d2 e2) (h1 : ¬ x7 = 0 → J (nI P) x4 (x7 + 5) kc ks (nI P) f1 a b d e g0 g1 a2 b2 d2 e2) : ∃ n, wL_law_1443 post L xs J (nI P) x4 x7 (nI (rg_cn (rg_st a b) 0 P)) kc ks (nI P) f1 a b d e g0 g1 a2 b2 d2 e2 n 0 (-1) (-1) 0 := by
  have hle := rg_cn_le (rg_st a b) 0 P
  refine pk_loop (fun n p (s : Nat × Int32 × Int32) => wL_law_1443 post L xs J (nI P) x4 x7 (nI (rg_cn (rg_st a b) 0 P)) kc ks (nI P) f1 a b d e g0 g1 a2 b2 d2 e2 n (nI s.1) s.2.1 s.2.2 (nI p)) (fun p s => lr_I a b p s) P 0 (0, -1, -1) (Nat.zero_le _) (Or.inl ⟨rfl, rfl, rfl, rfl⟩) (fun n s hs => ?_) (fun n p s hp hs hw => ?_)
  · exact pk_le P P (fun _ => br_c h0 (fun z => nm_e (h1 z))) (fun z => absurd z (by omega))
  · obtain ⟨k, pp, pb⟩ := s
    have hprev : (p = 0 ∧ pp = -1) ∨ (1 ≤ p ∧ pp = a (p - 1) ∧ pb = b (p - 1)) := by
      rcases hs with ⟨z1, z2, z3, z4⟩ | ⟨z1, z2, z3, z4⟩
      · exact Or.inl ⟨z1, z3⟩
      · exact Or.inr ⟨z1, z2, z3⟩
    have hlp := rg_cn_le (rg_st a b) 0 p
    have hmo := rg_cn_mono (p := rg_st a b) (s := 0) (show p ≤ P by omega)
    refine pk_le P p (fun z => absurd z (by omega)) (fun _ => ?_)
    by_cases hM : 1 ≤ p ∧ ¬ a (p - 1) = -6
    · have ek : k + 1 = rg_cn (rg_st a b) 0 p := by
        rcases hs with ⟨z1, z2, z3, z4⟩ | ⟨z1, z2, z3, z4 | z4⟩
        · omega
        · exact absurd z4.1 hM.2
        · exact z4.2
      obtain ⟨t0, t1, t2, t3, t4⟩ := lq_last (b := b) hM.2
      rw [show p - 1 + 1 = p from by omega] at t3
      refine pk_le (rg_cn (rg_st a b) 0 P) k (fun z => absurd z (by omega)) (fun hk => rx_reg hP hk (fun t l hG => ?_))
      have et : t = t0 := rg_st_u hG.2.1 t2 (by rw [hG.2.2.1]; omega)
      subst et
      obtain ⟨g1, g2, g3, g4, g5, g6, g7⟩ := hG
      have hpe : p ≤ t + l := by
        by_cases e : p ≤ t + l
        · exact e
        · rcases g7 with g7 | g7
          · omega
          · rw [t4 (t + l) (by omega) (by omega)] at g7
            exact absurd g7.symm Bool.false_ne_true
      refine pk_lt p (t + l) (fun z => ?_) (fun z => nm_r (nI_1 k) ?_) (hy := nI_add t l)
      · have co : rg_co a b p = true := by
          have := g6 (p - t) (by omega) (by omega)
          rw [show t + (p - t) = p from by omega] at this
          exact this
        refine pk_le (rg_cn (rg_st a b) 0 P) k (fun z => absurd z (by omega)) (fun _ => rx_rs1 hP hk (fun t' h1 h2 h3 => ?_))
        have et : t' = t := rg_st_u h2 t2 (by rw [h3]; omega)
        refine pk_lt p t' (fun z => absurd z (by omega)) (fun _ => lr_in hP hV hp (lq_co_x co).2.1 hprev hk (fun z => by rw [co] at z; exact absurd z.symm Bool.false_ne_true) (hw (k, a p, b p) ?_))
        exact Or.inr ⟨by omega, rfl, rfl, Or.inr ⟨(lq_co_x co).2.1, by rw [rg_cn_sf (lq_co_st co)]; exact ek⟩⟩
      · have co : rg_co a b p = false := by
          rcases g7 with g7 | g7
          · omega
          · rw [show t + l = p from by omega] at g7
            exact g7
        rw [ek]
        exact lr_1479 hP hV hp hprev co (hw (_, a p, b p) (lr_I_s (P := P) co rfl))
    · have ek : k = rg_cn (rg_st a b) 0 p := by
        rcases hs with ⟨z1, z2, z3, z4⟩ | ⟨z1, z2, z3, z4 | z4⟩
        · rw [z1]; exact z2
        · exact z4.2
        · exact absurd ⟨z1, z4.1⟩ hM
      have co : rg_co a b p = false := by
        by_cases c : rg_co a b p = true
        · exact absurd ⟨(lq_co_x c).1, (lq_co_x c).2.2⟩ hM
        · exact Bool.eq_false_iff.mpr c
      subst ek
      have fin := lr_1479 (post := post) (L := L) (xs := xs) (J := J) (kc := kc) (ks := ks) (f1 := f1) (g0 := g0) (g1 := g1) (d := d) (e := e) (a2 := a2) (b2 := b2) (d2 := d2) (e2 := e2) (x4 := x4) (x7 := x7) hP hV hp hprev co (hw (_, a p, b p) (lr_I_s (P := P) co rfl))
      refine pk_le (rg_cn (rg_st a b) 0 P) (rg_cn (rg_st a b) 0 p) (fun z => fin) (fun hk => rx_reg hP hk (fun t l hG => ?_))
      obtain ⟨g1, g2, g3, g4, g5, g6, g7⟩ := hG
      refine pk_lt p (t + l) (fun z => fin) (fun z => ?_) (hy := nI_add t l)
      have := rg_cn_mono (p := rg_st a b) (s := 0) (show t + 1 ≤ p by omega)
      rw [rg_cn_st g2] at this
      omega
theorem lr_64 {t l P : Nat} (h : t + l ≤ P) (hP : P ≤ 256) : (nI t).toInt64 + (nI l).toInt64 ≤ (nI P).toInt64 := by
  rw [nI_l (by omega), nI_l (by omega), nI_l (by omega), lN_add, lN_le (by omega) (by omega)]
  exact h
theorem lr_1346 {post : Int32 → Prop} {L : Nat} {xs : Nat → Int32} {J : Int32 → Int32 → Int32 → Nat → Nat → Int32 → Int32 → (Nat → Int32) → (Nat → Int32) → (Nat → Int32) → (Nat → Int32) → Int32 → Int32 → (Nat → Int32) → (Nat → Int32) → (Nat → Int32) → (Nat → Int32) → Prop} {kc ks P : Nat} {f1 g0 g1 : Int32} {a b d e a2 b2 d2 e2 : Nat → Int32} {x4 x7 : Int32} (hP : P ≤ 256) (hV : lq_V P a b) (h0 : x7 = 0 → J (nI P) x4 2 kc ks (nI P) f1 a b d e g0 g1 a2 b2 d2 e2) (h1 : ¬ x7 = 0 → J (nI P) x4 (x7 + 5) kc ks (nI P) f1 a b d e g0 g1 a2 b2 d2 e2) : ∃ n, wL_law_1346 post L xs J (nI P) x4 x7 (nI (rg_cn (rg_st a b) 0 P)) kc ks (nI P) f1 a b d e g0 g1 a2 b2 d2 e2 n 0 := by
  have hle := rg_cn_le (rg_st a b) 0 P
  refine pk_loop (σ := Unit) (fun n k _ => wL_law_1346 post L xs J (nI P) x4 x7 (nI (rg_cn (rg_st a b) 0 P)) kc ks (nI P) f1 a b d e g0 g1 a2 b2 d2 e2 n (nI k)) (fun _ _ => True) (rg_cn (rg_st a b) 0 P) 0 () (Nat.zero_le _) trivial (fun n _ _ => ?_) (fun n k _ hk _ hw => ?_)
  · exact pk_le (rg_cn (rg_st a b) 0 P) (rg_cn (rg_st a b) 0 P) (fun _ => lr_1443 hP hV h0 h1) (fun z => absurd z (by omega))
  · refine pk_le (rg_cn (rg_st a b) 0 P) k (fun z => absurd z (by omega)) (fun _ => rx_reg hP hk (fun t l hG => ?_))
    have hG' := hG
    obtain ⟨g1, g2, g3, g4, g5, g6, g7⟩ := hG
    refine br_f (nI_pos (by omega)) (br_f (nI_nlt (b := 1) (by omega) (by omega)) (br_t (lr_64 g5 hP) ?_))
    rw [nI_1]
    refine pk_le (rg_cn (rg_st a b) 0 P) (k + 1) (fun z => nm_e (hw () trivial)) (fun z => rx_rs1 hP z (fun t2 h1 h2 h3 => ?_))
    have hn := lq_next hG' h2 h3
    exact pk_le (t + l) t2 (fun _ => nm_e (hw () trivial)) (fun y => absurd y (by omega)) (hx := nI_add t l)
